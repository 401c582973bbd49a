/** For each promise of ../shared/DOC.md: ordinary inputs, the edges that it names, wrong inputs. */
public final class PromisesTest {
    private static final long NO = Long.MIN_VALUE;
    private static final long MUCH = 1000000000000000L;

    private static int wrong = 0;
    private static String promise = "";

    private static void due(String call, long got, long want) {
        if (got != want) {
            wrong++;
            System.out.println("promise " + promise + ": " + call + " answered " + got + ", due is " + want);
        }
    }

    private static void feed(ScheduleDesk x, String text) {
        for (int i = 0; i < text.length(); i++) {
            due("feed of " + text + " at " + i, x.feed(text.charAt(i)), x.told(5));
        }
    }

    private static long results(ScheduleDesk x, String text) {
        feed(x, text);
        return x.results();
    }

    private static long pick(ScheduleDesk x, String text) {
        feed(x, text);
        return x.pick();
    }

    private static long voidAll(ScheduleDesk x, String text, int is) {
        feed(x, text);
        return x.voidAll(is);
    }

    private static String paper(ScheduleDesk x) {
        StringBuilder text = new StringBuilder();
        for (int i = 0; i < x.told(6); i++) {
            text.append((char) x.paper(i));
        }
        return text.toString();
    }

    private static void duePaper(ScheduleDesk x, String want) {
        due("spell() for " + want, x.spell(), want.length());
        if (!paper(x).equals(want)) {
            wrong++;
            System.out.println("promise " + promise + ": THE PAPER holds " + paper(x) + ", due is " + want);
        }
    }

    /** Two TEAMS; 0 WON by 3 to 1 on day 5, weight 2: all of it is easily solved by hand. */
    private static ScheduleDesk pair() {
        ScheduleDesk x = new ScheduleDesk();
        x.teams(2);
        x.game(0, 1, 3, 1, 5, 2);
        return x;
    }

    /** Three TEAMS that beat each other round: 0 beat 1, 1 beat 2, 2 beat 0. */
    private static ScheduleDesk ring() {
        ScheduleDesk x = new ScheduleDesk();
        x.teams(3);
        x.game(0, 1, 2, 1, 1, 1);
        x.game(2, 1, 0, 5, 2, 1);
        x.game(2, 0, 4, 3, 3, 1);
        return x;
    }

    /** Four TEAMS: TOPS of 0 and 1 are OVER by SMOOTH, those of 2 and 3, who met only each other, aren't. */
    private static ScheduleDesk overOfTwo() {
        ScheduleDesk x = new ScheduleDesk();
        for (int g = 0; g < 29; g++) {
            x.game(0, 1, MUCH, 0, 0, 3);
        }
        x.game(2, 3, 1, 0, 0, 1);
        return x;
    }

    private static void dueRating(ScheduleDesk x, int model, int day, int team, long above, long below) {
        String call = "rating(" + model + ", " + day + ", " + team + ", ";
        due(call + "0)", x.rating(model, day, team, 0), above);
        due(call + "1)", x.rating(model, day, team, 1), below);
    }

    private static void promise1() {
        promise = "1";
        ScheduleDesk x = new ScheduleDesk();
        due("told(0)", x.told(0), 4);
        for (int what = 1; what <= 7; what++) {
            due("told(" + what + ")", x.told(what), 0);
        }
        due("told(8)", x.told(8), -1);
        due("cap", x.cap(MUCH), MUCH);
        due("undo", x.undo(), -3);
        due("get", x.get(0, 0), NO);
        due("set", x.set(3, 0, 1), -11);
        due("NONE", ScheduleDesk.NONE, -1);
        due("BAD", ScheduleDesk.BAD, -2);
        due("STATE", ScheduleDesk.STATE, -3);
        due("FULL", ScheduleDesk.FULL, -4);
    }

    private static void promise2() {
        promise = "2";
        ScheduleDesk x = new ScheduleDesk();
        due("teams(1)", x.teams(1), -2);
        due("teams(7)", x.teams(7), -2);
        due("teams(-1)", x.teams(Integer.MIN_VALUE), -2);
        due("teams(6)", x.teams(6), 4);
        due("game", x.game(4, 5, 1, 0, 9, 1), 0);
        x.guess(0, 1, 2, 3);
        x.fixture(0, 1);
        x.cap(7);
        x.feed('a');
        x.list(1, 3);
        x.spell();
        due("teams(9)", x.teams(9), -2);
        due("games behind a wrong call", x.told(1), 1);
        due("cap behind a wrong call", x.cap(7), 7);
        due("teams(2)", x.teams(2), 6);
        due("games", x.told(1), 0);
        due("fixtures", x.told(3), 0);
        due("guess", x.told(4), 0);
        due("would", x.would(0, 0, 0, 0), NO);
        due("cap", x.cap(8), MUCH);
        due("tape", x.told(5), 1);
        due("paper", x.told(6), 9);
        due("list", x.get(1, 2), 0);
        due("teams(3)", x.teams(3), 2);
    }

    private static void promise3() {
        promise = "3";
        ScheduleDesk x = new ScheduleDesk();
        due("home", x.game(-1, 1, 0, 0, 0, 1), -1);
        due("home", x.game(4, 1, 0, 0, 0, 1), -1);
        due("away", x.game(1, -1, 0, 0, 0, 1), -1);
        due("away", x.game(1, 4, 0, 0, 0, 1), -1);
        due("one twice", x.game(2, 2, 0, 0, 0, 1), -1);
        due("NONE ahead of BAD", x.game(2, 2, -1, 0, 0, 1), -1);
        due("for", x.game(0, 1, -1, 0, 0, 1), -2);
        due("for", x.game(0, 1, MUCH + 1, 0, 0, 1), -2);
        due("against", x.game(0, 1, 0, -1, 0, 1), -2);
        due("against", x.game(0, 1, 0, MUCH + 1, 0, 1), -2);
        due("day", x.game(0, 1, 0, 0, -1, 1), -2);
        due("day", x.game(0, 1, 0, 0, 100, 1), -2);
        due("weight", x.game(0, 1, 0, 0, 0, 0), -2);
        due("weight", x.game(0, 1, 0, 0, 0, 4), -2);
        due("nothing came", x.told(1), 0);
        for (int g = 0; g < 30; g++) {
            due("game " + g, x.game(g % 4, (g + 1) % 4, g == 3 ? MUCH : 0, 0, 99, 3), g);
        }
        due("FULL", x.game(0, 1, 0, 0, 0, 1), -4);
        due("NONE ahead of FULL", x.game(0, 0, 0, 0, 0, 1), -1);
        due("BAD ahead of FULL", x.game(0, 1, 0, 0, 0, 4), -2);
        due("thirty", x.told(1), 30);
    }

    private static void promise4() {
        promise = "4";
        ScheduleDesk x = new ScheduleDesk();
        x.game(3, 1, 20, 35, 98, 2);
        long[] want = {3, 1, 20, 35, 98, 2, 0, -15};
        for (int what = 0; what < 8; what++) {
            due("of(0, " + what + ")", x.of(0, what), want[what]);
        }
        due("of(0, -1)", x.of(0, -1), NO);
        due("of(0, 8)", x.of(0, 8), NO);
        due("of(-1, 0)", x.of(-1, 0), NO);
        due("of(1, 0)", x.of(1, 0), NO);
        x.voids(0, 1);
        due("void", x.of(0, 6), 1);
        x.cap(15);
        due("margin at CAP", x.of(0, 7), -15);
        x.cap(14);
        due("capped margin", x.of(0, 7), -14);
        x.game(1, 3, 35, 20, 0, 1);
        due("capped margin of HOME", x.of(1, 7), 14);
        x.cap(0);
        due("margin by CAP 0", x.of(1, 7), 0);
        x.game(0, 1, MUCH, 0, 0, 1);
        x.cap(MUCH);
        due("the greatest margin", x.of(2, 7), MUCH);
    }

    private static void promise5() {
        promise = "5";
        ScheduleDesk x = pair();
        due("no game", x.voids(1, 1), -1);
        due("no game", x.voids(-1, 1), -1);
        due("is 2", x.voids(0, 2), -1);
        due("is -1", x.voids(0, -1), -1);
        due("still not", x.of(0, 6), 0);
        due("void", x.voids(0, 1), 0);
        due("void again", x.voids(0, 1), 1);
        due("of", x.of(0, 6), 1);
        due("counts no more", x.matrix(0, 99, 0, 0), 2);
        due("not void", x.voids(0, 0), 1);
        due("not void again", x.voids(0, 0), 0);
        due("counts", x.matrix(0, 99, 0, 0), 4);
    }

    private static void promise6() {
        promise = "6";
        ScheduleDesk x = pair();
        due("cap(-1)", x.cap(-1), -2);
        due("cap too great", x.cap(MUCH + 1), -2);
        due("cap(1)", x.cap(1), MUCH);
        due("right", x.right(1, 99, 0), 2);
        due("cap(0)", x.cap(0), 1);
        due("right", x.right(1, 99, 0), 0);
        due("wins aren't capped", x.right(0, 99, 0), 4);
        due("cap(10^15)", x.cap(MUCH), 0);
        due("right", x.right(2, 99, 1), -4);
    }

    private static void promise7() {
        promise = "7";
        ScheduleDesk x = ring();
        x.voids(2, 1);
        due("drop", x.drop(), 2);
        due("of", x.of(2, 0), NO);
        due("game", x.game(0, 2, 1, 1, 4, 1), 2);
        due("not void", x.of(2, 6), 0);
        due("drop", x.drop(), 2);
        due("drop", x.drop(), 1);
        due("drop", x.drop(), 0);
        due("drop", x.drop(), -3);
        due("games", x.told(1), 0);
    }

    private static void promise8() {
        promise = "8";
        ScheduleDesk x = new ScheduleDesk();
        x.teams(3);
        x.game(0, 1, 1, 0, 5, 2);
        x.game(1, 0, 1, 0, 6, 3);
        x.game(1, 2, 1, 1, 7, 1);
        long[][] wins = {{7, -5, 0}, {-5, 8, -1}, {0, -1, 3}};
        long[][] margins = {{5, -5, 0}, {-5, 6, -1}, {1, 1, 1}};
        for (int i = 0; i < 3; i++) {
            for (int j = 0; j < 3; j++) {
                String at = " at " + i + ", " + j;
                due("wins" + at, x.matrix(0, 7, i, j), wins[i][j]);
                due("margins" + at, x.matrix(1, 7, i, j), margins[i][j]);
                due("smooth" + at, x.matrix(2, 7, i, j), wins[i][j]);
                due("ahead of all" + at, x.matrix(2, 4, i, j), i == j ? 2 : 0);
            }
        }
        due("as of 5", x.matrix(0, 5, 0, 0), 4);
        due("as of 6", x.matrix(0, 6, 0, 0), 7);
        due("as of 6", x.matrix(0, 6, 2, 2), 2);
        due("model", x.matrix(3, 5, 0, 0), NO);
        due("model", x.matrix(-1, 5, 0, 0), NO);
        due("day", x.matrix(0, -1, 0, 0), NO);
        due("day", x.matrix(0, 100, 0, 0), NO);
        due("i", x.matrix(0, 5, 3, 0), NO);
        due("i", x.matrix(0, 5, -1, 0), NO);
        due("j", x.matrix(0, 5, 0, 3), NO);
        due("j", x.matrix(0, 5, 0, -1), NO);
    }

    private static void promise9() {
        promise = "9";
        ScheduleDesk x = new ScheduleDesk();
        x.teams(3);
        x.game(0, 1, 7, 3, 5, 2);
        x.game(1, 2, 1, 11, 6, 3);
        x.game(2, 0, 8, 8, 6, 3);
        long[] wins = {4, -3, 5};
        long[] margins = {8, -38, 0};
        long[] smooth = {8, -38, 30};
        for (int i = 0; i < 3; i++) {
            due("wins " + i, x.right(0, 99, i), wins[i]);
            due("margins " + i, x.right(1, 99, i), margins[i]);
            due("smooth " + i, x.right(2, 99, i), smooth[i]);
        }
        due("as of 5", x.right(0, 5, 1), 0);
        due("model", x.right(3, 5, 0), NO);
        due("model", x.right(-1, 5, 0), NO);
        due("day", x.right(0, -1, 0), NO);
        due("day", x.right(0, 100, 0), NO);
        due("i", x.right(0, 5, 3), NO);
        due("i", x.right(0, 5, -1), NO);
    }

    private static void promise10() {
        promise = "10";
        ScheduleDesk x = pair();
        due("wins", x.det(0, 5), 12);
        due("margins", x.det(1, 5), 4);
        due("smooth", x.det(2, 5), 12);
        due("wins, no games", x.det(0, 4), 4);
        due("parted", x.det(1, 4), 0);
        due("model", x.det(3, 4), NO);
        due("model", x.det(-1, 4), NO);
        due("day", x.det(0, -1), NO);
        due("day", x.det(0, 100), NO);
        x.teams(6);
        due("six", x.det(2, 0), 64);
    }

    private static void promise11() {
        promise = "11";
        ScheduleDesk x = pair();
        long[][] wins = {{4, 2}, {2, 4}};
        long[][] margins = {{1, 2}, {-1, 2}};
        for (int i = 0; i < 2; i++) {
            for (int j = 0; j < 2; j++) {
                due("wins " + i + ", " + j, x.cofactor(0, 5, i, j), wins[i][j]);
                due("margins " + i + ", " + j, x.cofactor(1, 5, i, j), margins[i][j]);
            }
        }
        due("parted", x.cofactor(1, 4, 1, 0), -1);
        due("model", x.cofactor(3, 5, 0, 0), NO);
        due("model", x.cofactor(-1, 5, 0, 0), NO);
        due("day", x.cofactor(0, -1, 0, 0), NO);
        due("day", x.cofactor(0, 100, 0, 0), NO);
        due("i", x.cofactor(0, 5, 2, 0), NO);
        due("i", x.cofactor(0, 5, -1, 0), NO);
        due("j", x.cofactor(0, 5, 0, 2), NO);
        due("j", x.cofactor(0, 5, 0, -1), NO);
    }

    private static void promise12() {
        promise = "12";
        ScheduleDesk x = pair();
        dueRating(x, 0, 5, 0, 2, 3);
        dueRating(x, 0, 5, 1, 1, 3);
        dueRating(x, 1, 5, 0, 1, 1);
        dueRating(x, 1, 5, 1, -1, 1);
        dueRating(x, 2, 5, 0, 2, 3);
        dueRating(x, 2, 5, 1, -2, 3);
        dueRating(x, 0, 4, 1, 1, 2);
        dueRating(x, 2, 4, 1, 0, 1);
        dueRating(x, 1, 4, 0, NO, NO);
        due("model", x.rating(3, 5, 0, 0), NO);
        due("model", x.rating(-1, 5, 0, 0), NO);
        due("day", x.rating(0, -1, 0, 0), NO);
        due("day", x.rating(0, 100, 0, 0), NO);
        due("team", x.rating(0, 5, 2, 0), NO);
        due("team", x.rating(0, 5, -1, 0), NO);
        due("part", x.rating(0, 5, 0, 2), NO);
        due("part", x.rating(0, 5, 0, -1), NO);
        ScheduleDesk y = overOfTwo();
        dueRating(y, 2, 99, 0, NO, NO);
        dueRating(y, 2, 99, 1, NO, NO);
        dueRating(y, 2, 99, 2, 1, 4);
        dueRating(y, 2, 99, 3, -1, 4);
        dueRating(y, 1, 99, 2, NO, NO);
    }

    /**
     * Six TEAMS, each met each once; those with lesser numbers WON, i by j less i of j. Without the last row
     * the MATRIX is 6 times the unit one, less ones: MARGINS' RATING of i is RIGHT, 15 less 6 i, over 6.
     */
    private static ScheduleDesk roundOfSix() {
        ScheduleDesk x = new ScheduleDesk();
        x.teams(6);
        for (int i = 0; i < 6; i++) {
            for (int j = i + 1; j < 6; j++) {
                x.game(i, j, j - i, 0, 0, 1);
            }
        }
        return x;
    }

    private static void sixTeams() {
        promise = "8 to 39 (six TEAMS)";
        ScheduleDesk x = roundOfSix();
        due("det of wins", x.det(0, 0), 65536);
        due("det of margins", x.det(1, 0), 7776);
        due("det of smooth", x.det(2, 0), 65536);
        due("cofactor", x.cofactor(0, 0, 5, 5), 12288);
        due("cofactor", x.cofactor(2, 0, 4, 5), 4096);
        due("cofactor", x.cofactor(1, 0, 3, 5), 1296);
        int[] tens = {2, 10, 10, 10, 10, 2};
        int[] aboves = {1, 3, 1, 1, 3, 1};
        for (int i = 0; i < 6; i++) {
            int sign = i < 3 ? 1 : -1;
            due("right", x.right(0, 0, i), 7 - 2 * i);
            due("right", x.right(1, 0, i), i == 5 ? 0 : 15 - 6 * i);
            due("right", x.right(2, 0, i), 15 - 6 * i);
            dueRating(x, 0, 0, i, 13 - 2 * i, 16);
            dueRating(x, 1, 0, i, 5 - 2 * i, 2);
            dueRating(x, 2, 0, i, 15 - 6 * i, 8);
            due("schedule", x.schedule(1, 0, i, 0), -sign * aboves[i]);
            due("schedule", x.schedule(1, 0, i, 1), tens[i]);
            due("rank", x.rank(1, 0, i), i);
            due("place", x.place(0, 0, i), i);
            due("score", x.score(2, 0, i), 10 - 2 * i);
        }
        due("upsets", x.upsets(1, 0), 0);
        due("rings", x.rings(0), 0);
        due("duels", x.duel(-1, 0), 15);
        due("the last duel", x.duel(14, 1), 5);
        x.list(0, 7);
        x.set(0, 0, 2);
        for (int i = 0; i < 6; i++) {
            x.set(0, 1 + i, 5 - 2 * i);
        }
        due("judge", x.judge(1, 0, 0, 0), -5);
        due("judge", x.judge(2, 0, 0, 0), 0);
        x.set(0, 6, -4);
        due("judge", x.judge(1, 0, 0, 0), 0);
        x.list(0, 7);
        x.set(0, 2, NO);
        due("the least long with the other sign", x.judge(1, 0, 0, 0), -6);
    }

    private static void promise13() {
        promise = "13";
        ScheduleDesk x = pair();
        due("first", x.rank(0, 5, 0), 0);
        due("second", x.rank(0, 5, 1), 1);
        x.game(1, 0, 9, 1, 6, 3);
        due("first", x.rank(1, 6, 0), 1);
        due("second", x.rank(1, 6, 1), 0);
        due("like ones", x.rank(2, 0, 0), 0);
        due("like ones", x.rank(2, 0, 1), 1);
        due("parted", x.rank(1, 0, 0), -3);
        due("k ahead of parted", x.rank(1, 0, 2), -1);
        due("k", x.rank(0, 5, 2), -1);
        due("k", x.rank(0, 5, -1), -1);
        due("model", x.rank(3, 5, 0), -1);
        due("model", x.rank(-1, 5, 0), -1);
        due("day", x.rank(0, -1, 0), -1);
        due("day", x.rank(0, 100, 0), -1);
        ScheduleDesk y = overOfTwo();
        due("over", y.rank(2, 99, 3), -6);
        due("parted ahead of over", y.rank(1, 99, 0), -3);
        due("none over by wins", y.rank(0, 99, 3), 1);
        due("like ones by wins", y.rank(0, 99, 0), 0);
        due("second by wins", y.rank(0, 99, 1), 2);
    }

    private static void promise14() {
        promise = "14";
        ScheduleDesk x = new ScheduleDesk();
        x.teams(3);
        x.game(0, 1, 3, 1, 5, 2);
        due("of 0: what 1 has", x.schedule(2, 5, 0, 0), -2);
        due("of 0: what 1 has", x.schedule(2, 5, 0, 1), 3);
        due("of 1: what 0 has", x.schedule(0, 5, 1, 0), 2);
        due("of 1: what 0 has", x.schedule(0, 5, 1, 1), 3);
        due("none", x.schedule(0, 5, 2, 0), NO);
        due("parted", x.schedule(1, 5, 0, 0), NO);
        x.game(2, 0, 9, 0, 6, 1);
        // SMOOTH as of 6: DET 44, TOPS -48, -68, 116; of 0: (2 * -68 + 1 * 116) / (44 * 3).
        due("of two", x.schedule(2, 6, 0, 0), -5);
        due("of two", x.schedule(2, 6, 0, 1), 33);
        due("margins too", x.schedule(1, 6, 1, 0), x.rating(1, 6, 0, 0));
        due("model", x.schedule(3, 5, 0, 0), NO);
        due("model", x.schedule(-1, 5, 0, 0), NO);
        due("day", x.schedule(0, -1, 0, 0), NO);
        due("day", x.schedule(0, 100, 0, 0), NO);
        due("team", x.schedule(0, 5, 3, 0), NO);
        due("team", x.schedule(0, 5, -1, 0), NO);
        due("part", x.schedule(0, 5, 0, 2), NO);
        due("part", x.schedule(0, 5, 0, -1), NO);
        ScheduleDesk y = overOfTwo();
        due("over", y.schedule(2, 99, 0, 0), NO);
        due("not over of 2", y.schedule(2, 99, 2, 0), -1);
        due("not over of 2", y.schedule(2, 99, 2, 1), 4);
    }

    private static void promise15() {
        promise = "15";
        ScheduleDesk x = pair();
        due("0, 1", x.predict(0, 5, 0, 1), 0);
        due("1, 0", x.predict(0, 5, 1, 0), 0);
        due("alike", x.predict(0, 4, 1, 0), -5);
        due("parted", x.predict(1, 4, 1, 0), -3);
        due("one twice", x.predict(1, 4, 1, 1), -1);
        due("a", x.predict(0, 5, 2, 1), -1);
        due("a", x.predict(0, 5, -1, 1), -1);
        due("b", x.predict(0, 5, 1, 2), -1);
        due("b", x.predict(0, 5, 1, -1), -1);
        due("model", x.predict(3, 5, 0, 1), -1);
        due("model", x.predict(-1, 5, 0, 1), -1);
        due("day", x.predict(0, -1, 0, 1), -1);
        due("day", x.predict(0, 100, 0, 1), -1);
        ScheduleDesk y = overOfTwo();
        due("over of a", y.predict(2, 99, 0, 2), -6);
        due("over of b", y.predict(2, 99, 3, 1), -6);
        due("neither is over", y.predict(2, 99, 3, 2), 2);
        due("parted ahead of over", y.predict(1, 99, 0, 2), -3);
    }

    private static void promise16() {
        promise = "16";
        ScheduleDesk x = pair();
        due("none", x.upsets(0, 99), 0);
        x.game(1, 0, 2, 1, 6, 1);
        due("one", x.upsets(0, 99), 1);
        due("as of 5", x.upsets(0, 5), 0);
        x.game(0, 1, 4, 4, 7, 3);
        due("drawn ones aren't", x.upsets(2, 99), 1);
        x.game(0, 1, 0, 1, 8, 1);
        due("alike by wins", x.upsets(0, 99), 0);
        due("by margins", x.upsets(1, 99), 2);
        x.voids(1, 1);
        due("void ones don't count", x.upsets(1, 99), 1);
        due("parted", x.upsets(1, 4), -3);
        due("model", x.upsets(3, 5), -1);
        due("model", x.upsets(-1, 5), -1);
        due("day", x.upsets(0, -1), -1);
        due("day", x.upsets(0, 100), -1);
        due("over", overOfTwo().upsets(2, 99), -6);
        due("parted ahead of over", overOfTwo().upsets(1, 99), -3);
        x.teams(2);
        x.game(1, 0, 0, 1, 0, 1);
        x.game(1, 0, 9, 0, 1, 3);
        due("the first GAME", x.upsets(0, 1), 1);
        x.game(0, 1, 1, 0, 1, 1);
        x.drop();
        due("a dropped one", x.upsets(0, 1), 1);
    }

    private static void promise17() {
        promise = "17";
        ScheduleDesk x = pair();
        due("home", x.guess(2, 1, 0, 0), -1);
        due("home", x.guess(-1, 1, 0, 0), -1);
        due("away", x.guess(1, 2, 0, 0), -1);
        due("away", x.guess(1, -1, 0, 0), -1);
        due("one twice", x.guess(1, 1, 0, 0), -1);
        due("NONE ahead of BAD", x.guess(1, 1, -1, 0), -1);
        due("for", x.guess(0, 1, -1, 0), -2);
        due("for", x.guess(0, 1, MUCH + 1, 0), -2);
        due("against", x.guess(0, 1, 0, -1), -2);
        due("against", x.guess(0, 1, 0, MUCH + 1), -2);
        due("no guess", x.told(4), 0);
        due("guess", x.guess(1, 0, MUCH, 0), 1);
        due("told", x.told(4), 1);
        due("no game", x.told(1), 1);
        due("no matter to ratings", x.det(0, 99), 12);
        dueNoMatter();
        due("another", x.guess(0, 1, 0, 0), 1);
        due("wrong one leaves it", x.guess(0, 0, 0, 0), -1);
        due("told", x.told(4), 1);
    }

    /** All that is told of rows, in one text. */
    private static String rows(ScheduleDesk x) {
        StringBuilder text = new StringBuilder();
        x.list(0, 4);
        for (int model = 0; model < 3; model++) {
            text.append(x.det(model, 99)).append(' ').append(x.upsets(model, 99));
            text.append(' ').append(x.upturns(model, 99, 2)).append(' ').append(x.judge(model, 99, 0, 0));
            for (int i = 0; i < 3; i++) {
                text.append(' ').append(x.matrix(model, 99, 0, i)).append(' ').append(x.right(model, 99, i));
                text.append(' ').append(x.cofactor(model, 99, i, 0)).append(' ').append(x.rating(model, 99, i, 0));
                text.append(' ').append(x.schedule(model, 99, i, 0)).append(' ').append(x.rank(model, 99, i));
                text.append(' ').append(x.predict(model, 99, i, (i + 1) % 3)).append(' ').append(x.score(model, 99, i));
                text.append(' ').append(x.place(model, 99, i)).append(' ').append(x.without(model, 99, 1, i, 0));
            }
        }
        return text.append(' ').append(x.rings(99)).append(' ').append(x.beaten(99, 1, 2)).toString();
    }

    private static void dueNoMatter() {
        ScheduleDesk x = ring();
        String before = rows(x);
        x.guess(2, 1, 88, 0);
        due("whether all rows are as before", rows(x).equals(before) ? 1 : 0, 1);
    }

    private static void promise18() {
        promise = "18";
        ScheduleDesk x = pair();
        due("no guess", x.would(0, 5, 0, 0), NO);
        x.guess(1, 0, 4, 1);
        // MARGINS then: 3 0 games' weight, rights 4 - 3; 1 over 6.
        due("margins", x.would(1, 5, 0, 0), 1);
        due("margins", x.would(1, 5, 0, 1), 6);
        due("wins of 0", x.would(0, 5, 0, 0), 9);
        due("wins of 0", x.would(0, 5, 0, 1), 16);
        due("as of a day ahead of all games", x.would(1, 0, 1, 0), 3);
        due("as of a day ahead of all games", x.would(1, 0, 1, 1), 2);
        x.cap(2);
        due("capped", x.would(1, 0, 1, 0), 1);
        due("capped", x.would(1, 0, 1, 1), 1);
        due("the rating is as it was", x.rating(1, 5, 0, 0), 1);
        due("model", x.would(3, 5, 0, 0), NO);
        due("model", x.would(-1, 5, 0, 0), NO);
        due("day", x.would(0, -1, 0, 0), NO);
        due("day", x.would(0, 100, 0, 0), NO);
        due("team", x.would(0, 5, 2, 0), NO);
        due("team", x.would(0, 5, -1, 0), NO);
        due("part", x.would(0, 5, 0, 2), NO);
        due("part", x.would(0, 5, 0, -1), NO);
        ScheduleDesk y = overOfTwo();
        y.guess(2, 0, 0, 0);
        due("over then", y.would(2, 99, 2, 0), NO);
        y.guess(2, 3, 5, 0);
        due("more than thirty", y.would(2, 99, 2, 0), 1);
        due("parted then", y.would(1, 99, 2, 0), NO);
    }

    private static void promise19() {
        promise = "19";
        ScheduleDesk x = pair();
        x.game(1, 0, 4, 1, 6, 1);
        due("without 1", x.without(1, 99, 1, 0, 0), 1);
        due("without 1", x.without(1, 99, 1, 0, 1), 1);
        due("without 0", x.without(1, 99, 0, 0, 0), -3);
        due("without 0", x.without(1, 99, 0, 0, 1), 2);
        due("one that doesn't count yet", x.without(1, 5, 1, 1, 0), -1);
        due("parted then", x.without(1, 5, 0, 0, 0), NO);
        x.voids(1, 1);
        due("a void one", x.without(1, 99, 1, 1, 0), -1);
        due("it stays", x.rating(1, 99, 0, 0), 1);
        due("model", x.without(3, 5, 0, 0, 0), NO);
        due("model", x.without(-1, 5, 0, 0, 0), NO);
        due("day", x.without(0, -1, 0, 0, 0), NO);
        due("day", x.without(0, 100, 0, 0, 0), NO);
        due("game", x.without(0, 5, 2, 0, 0), NO);
        due("game", x.without(0, 5, -1, 0, 0), NO);
        due("team", x.without(0, 5, 0, 2, 0), NO);
        due("team", x.without(0, 5, 0, -1, 0), NO);
        due("part", x.without(0, 5, 0, 0, 2), NO);
        due("part", x.without(0, 5, 0, 0, -1), NO);
        due("over", overOfTwo().without(2, 99, 29, 0, 0), NO);
    }

    private static void promise20() {
        promise = "20";
        ScheduleDesk x = pair();
        x.game(1, 0, 2, 1, 6, 1);
        due("0 leads all the same", x.upturns(1, 99, 1), 0);
        due("1 would lead", x.upturns(1, 99, 0), 1);
        due("one that doesn't count", x.upturns(1, 5, 1), 0);
        due("parted then", x.upturns(1, 5, 0), -3);
        due("parted now", x.upturns(1, 4, 0), -3);
        due("game", x.upturns(1, 5, 2), -1);
        due("game", x.upturns(1, 5, -1), -1);
        due("model", x.upturns(3, 5, 0), -1);
        due("model", x.upturns(-1, 5, 0), -1);
        due("day", x.upturns(0, -1, 0), -1);
        due("day", x.upturns(0, 100, 0), -1);
        due("over now and then", overOfTwo().upturns(2, 99, 29), -6);
        due("parted ahead of over", overOfTwo().upturns(1, 99, 29), -3);
        promise20Over();
    }

    /** Games until the first of them that makes a TOP OVER: without it, all is told again. */
    private static void promise20Over() {
        ScheduleDesk x = new ScheduleDesk();
        x.teams(3);
        x.game(1, 2, MUCH, 0, 0, 3);
        x.game(0, 1, 0, 0, 0, 3);
        int last = 1;
        for (int g = 2; g < 30 && x.rank(2, 99, 0) != -6; g++) {
            last = x.game(g % 2, 2, MUCH, 0, 0, 3);
        }
        due("over now", x.rank(2, 99, 0), -6);
        due("over now, not then", x.upturns(2, 99, last), -6);
        x.voids(last, 1);
        due("not over without the last", x.rank(2, 99, 2), 2);
        due("neither now nor then", x.upturns(2, 99, last), 0);
    }

    private static void promise21() {
        promise = "21";
        ScheduleDesk x = new ScheduleDesk();
        due("no duels", x.duel(-1, 77), 0);
        due("no duel 0", x.duel(0, 0), -1);
        x.game(3, 1, 0, 0, 0, 1);
        x.game(0, 2, 0, 0, 0, 1);
        x.game(1, 3, 0, 0, 0, 1);
        x.voids(0, 1);
        due("two", x.duel(-1, 0), 2);
        due("lesser", x.duel(0, 0), 1);
        due("other", x.duel(0, 1), 3);
        due("games", x.duel(0, 2), 2);
        due("void", x.duel(0, 3), 1);
        due("lesser", x.duel(1, 0), 0);
        due("other", x.duel(1, 1), 2);
        due("games", x.duel(1, 2), 1);
        due("void", x.duel(1, 3), 0);
        due("i", x.duel(2, 0), -1);
        due("i", x.duel(-2, 0), -1);
        due("what", x.duel(0, 4), -1);
        due("what", x.duel(0, -1), -1);
        x.drop();
        due("without the dropped one", x.duel(0, 2), 1);
        x.drop();
        due("without the dropped one", x.duel(-1, 0), 1);
        x.game(1, 2, 0, 0, 0, 1);
        due("by their first GAMES", x.duel(1, 1), 2);
    }

    private static void promise22() {
        promise = "22";
        ScheduleDesk x = pair();
        due("0, 1", x.beaten(5, 0, 1), 0);
        due("1, 0", x.beaten(5, 1, 0), 0);
        due("none yet", x.beaten(4, 0, 1), -5);
        x.game(1, 0, 1, 0, 6, 1);
        due("weights", x.beaten(6, 0, 1), 0);
        x.game(0, 1, 0, 1, 7, 1);
        due("as much", x.beaten(7, 0, 1), -5);
        x.game(0, 1, 0, 1, 8, 3);
        due("more", x.beaten(8, 0, 1), 1);
        x.voids(3, 1);
        due("void", x.beaten(8, 0, 1), -5);
        x.game(0, 1, 1, 0, 0, 1);
        x.drop();
        due("a dropped one", x.beaten(8, 0, 1), -5);
        due("one twice", x.beaten(5, 1, 1), -1);
        due("a", x.beaten(5, 2, 1), -1);
        due("a", x.beaten(5, -1, 1), -1);
        due("b", x.beaten(5, 1, 2), -1);
        due("b", x.beaten(5, 1, -1), -1);
        due("day", x.beaten(-1, 0, 1), -1);
        due("day", x.beaten(100, 0, 1), -1);
    }

    private static void promise23() {
        promise = "23";
        ScheduleDesk x = ring();
        due("one", x.rings(99), 1);
        due("as of 2", x.rings(2), 0);
        due("day", x.rings(-1), -1);
        due("day", x.rings(100), -1);
        x.voids(1, 1);
        due("void", x.rings(99), 0);
        x.teams(4);
        x.game(0, 1, 0, 1, 0, 1);
        x.game(1, 2, 0, 1, 0, 1);
        x.game(2, 0, 0, 1, 0, 1);
        due("the other way round", x.rings(0), 1);
        x.game(2, 3, 0, 1, 0, 1);
        x.game(1, 3, 1, 0, 0, 1);
        due("two", x.rings(0), 2);
        due("of two teams none", pair().rings(99), 0);
        x.teams(3);
        int[] firsts = {0, 1, 2};
        for (int first : firsts) {
            x.game(first, (first + 1) % 3, 1, 0, 0, 1);
        }
        due("again one", x.rings(0), 1);
        for (int first : firsts) {
            x.game(first, (first + 1) % 3, 0, 1, 1, 1);
            due("two as much as each other: none", x.rings(1), 0);
            x.drop();
            x.game(first, (first + 1) % 3, 0, 1, 1, 2);
            due("one that goes both ways: none", x.rings(1), 0);
            x.drop();
        }
    }

    private static void promise24() {
        promise = "24";
        ScheduleDesk x = pair();
        due("home", x.fixture(2, 0), -1);
        due("home", x.fixture(-1, 0), -1);
        due("away", x.fixture(0, 2), -1);
        due("away", x.fixture(0, -1), -1);
        due("one twice", x.fixture(1, 1), -1);
        for (int f = 1; f <= 12; f++) {
            due("fixture", x.fixture(f % 2, 1 - f % 2), f);
        }
        due("FULL", x.fixture(0, 1), -4);
        due("NONE ahead of FULL", x.fixture(0, 0), -1);
        due("twelve", x.told(3), 12);
        x.teams(6);
        x.fixture(4, 5);
        x.fixture(2, 5);
        int[] scores = {0, 0, 1, 0, 1, 2};
        for (int team = 0; team < 6; team++) {
            due("who meets whom: " + team, x.score(0, 0, team), scores[team]);
        }
    }

    private static void promise25() {
        promise = "25";
        ScheduleDesk x = pair();
        due("none", x.clears(), 0);
        x.fixture(0, 1);
        x.fixture(0, 1);
        due("two", x.clears(), 2);
        due("none", x.told(3), 0);
        due("score without them", x.score(0, 99, 0), 2);
        due("the next", x.fixture(1, 0), 1);
    }

    private static void promise26() {
        promise = "26";
        ScheduleDesk x = pair();
        due("won", x.score(0, 5, 0), 2);
        due("lost", x.score(0, 5, 1), 0);
        due("not yet", x.score(0, 4, 0), 0);
        x.game(1, 0, 4, 4, 6, 3);
        due("drawn", x.score(0, 99, 0), 3);
        due("drawn", x.score(0, 99, 1), 1);
        x.fixture(1, 0);
        due("predicted", x.score(0, 99, 0), 5);
        due("predicted", x.score(0, 99, 1), 1);
        due("alike", x.score(2, 4, 0), 1);
        due("alike", x.score(2, 4, 1), 1);
        x.voids(0, 1);
        due("void", x.score(0, 99, 0), 2);
        due("parted", x.score(1, 4, 0), -3);
        due("team", x.score(1, 4, 2), -1);
        due("team", x.score(1, 4, -1), -1);
        due("model", x.score(3, 5, 0), -1);
        due("model", x.score(-1, 5, 0), -1);
        due("day", x.score(0, -1, 0), -1);
        due("day", x.score(0, 100, 0), -1);
        due("over", overOfTwo().score(2, 99, 2), -6);
        due("parted ahead of over", overOfTwo().score(1, 99, 2), -3);
        due("wins aren't over", overOfTwo().score(0, 99, 0), 58);
    }

    private static void promise27() {
        promise = "27";
        ScheduleDesk x = new ScheduleDesk();
        x.teams(3);
        x.game(0, 1, 0, 1, 0, 1);
        x.game(0, 2, 9, 0, 0, 1);
        x.game(1, 2, 1, 1, 0, 1);
        // SCORES 2, 3, 1; by MARGINS the RATINGS are 8/3, 1/3, -3.
        due("rank", x.rank(1, 0, 0), 0);
        due("first", x.place(1, 0, 0), 1);
        due("second", x.place(1, 0, 1), 0);
        due("third", x.place(1, 0, 2), 2);
        x.fixture(2, 0);
        due("the fixture counts", x.place(1, 0, 0), 0);
        x.game(1, 2, 9, 9, 0, 1);
        due("like scores by ranks", x.place(1, 0, 0), 0);
        due("like scores by ranks", x.place(1, 0, 1), 1);
        x.teams(3);
        due("alike all", x.place(2, 0, 1), 1);
        x.game(2, 1, 1, 0, 0, 1);
        x.game(1, 0, 1, 0, 0, 1);
        x.game(1, 0, 0, 4, 0, 1);
        // SCORES 2, 2, 2, ratings by SMOOTH: of 2 and 0 above that of 1.
        due("like scores: last by ranks", x.place(2, 0, 2), 1);
        due("like scores: first by ranks", x.place(2, 0, 0), x.rank(2, 0, 0));
        due("parted", new ScheduleDesk().place(1, 0, 0), -3);
        due("k", x.place(1, 0, 3), -1);
        due("k", x.place(1, 0, -1), -1);
        due("model", x.place(3, 5, 0), -1);
        due("model", x.place(-1, 5, 0), -1);
        due("day", x.place(0, -1, 0), -1);
        due("day", x.place(0, 100, 0), -1);
        due("over", overOfTwo().place(2, 99, 2), -6);
        due("parted ahead of over", overOfTwo().place(1, 99, 2), -3);
    }

    private static void promise28And29() {
        promise = "28";
        ScheduleDesk x = new ScheduleDesk();
        due("0", x.feed(0), -2);
        due("128", x.feed(128), -2);
        due("-1", x.feed(-1), -2);
        for (int i = 1; i <= 120; i++) {
            due("feed " + i, x.feed(i == 1 ? 1 : 127), i);
        }
        due("FULL", x.feed(65), -4);
        due("BAD ahead of FULL", x.feed(0), -2);
        due("told", x.told(5), 120);
        promise = "29";
        due("clear", x.clear(), 120);
        due("clear", x.clear(), 0);
        due("feed", x.feed(65), 1);
        due("told", x.told(5), 1);
    }

    private static void dueGame(ScheduleDesk x, int game, long... want) {
        for (int what = 0; what < want.length; what++) {
            due("of(" + game + ", " + what + ")", x.of(game, what), want[what]);
        }
    }

    private static void promise30() {
        promise = "30";
        ScheduleDesk x = new ScheduleDesk();
        due("two", results(x, "0-3:21-0014@5x3;2-1:9999-0@99"), 2);
        dueGame(x, 0, 0, 3, 21, 14, 5, 3, 0, 7);
        dueGame(x, 1, 2, 1, 9999, 0, 99, 1, 0, 9999);
        due("the tape is empty", x.told(5), 0);
        String[] faulty = {"", "x", "0", "4", "0-", "0-0", "0-4:1-1@1", "01", "0-1", "0-1:", "0-1:-", "0-1:1",
            "0-1:12345-1@1", "0-1:1-", "0-1:1-12345@1", "0-1:1-1", "0-1:1-1@", "0-1:1-1@x", "0-1:1-1@123",
            "0-1:1-1@1x", "0-1:1-1@1x0", "0-1:1-1@1x4", "0-1:1-1@1x12", "0-1:1-1@1;", "0-1:1-1@1;;",
            "0-1:1-1@1;0-1:1-1@1 ", "0-1:1-1@1;1-1:1-1@1", " 0-1:1-1@1", "0-1;1-1@1", "0-1:1-1@1X2", "9-9",
            "0-1:1-1@1;9"};
        int[] faults = {0, 0, 1, 0, 2, 2, 2, 1, 3, 4, 4, 5, 8, 6, 10, 7, 8, 8, 10, 10, 10, 10, 11, 10, 10, 19, 12,
            0, 3, 9, 0, 10};
        for (int i = 0; i < faulty.length; i++) {
            ScheduleDesk y = new ScheduleDesk();
            y.game(0, 1, 0, 0, 0, 1);
            due("results() of " + faulty[i], results(y, faulty[i]), -100 - faults[i]);
            due("the tape behind it", y.told(5), 0);
            due("the games behind it", y.told(1), 1);
        }
        promise30Room();
    }

    private static ScheduleDesk withGames(int games) {
        ScheduleDesk x = new ScheduleDesk();
        for (int g = 0; g < games; g++) {
            x.game(0, 1, 0, 0, 0, 1);
        }
        return x;
    }

    /** Of a GAME without room the FAULT is where it begins, whatever is wrong within it or behind it. */
    private static void dueNoRoom(int games, String ahead, int begins) {
        String whole = "0-1:1-1@11x2";
        for (int length = 0; length <= whole.length(); length++) {
            String text = ahead + whole.substring(0, length);
            due("results() of " + text, results(withGames(games), text), -100 - begins);
            due("results() of " + text + "z", results(withGames(games), text + "z"), -100 - begins);
        }
        String[] faulty = {"9", "0-0", "0-9:1-1@1", "0-1:12345-1@1", "0-1:1-1@123", "0-1:1-1@1x4", "0-1:1-1@1x0",
            "0-1:1-1@1;", "0-1:1-1@1;9", ";", " 0-1:1-1@1"};
        for (String text : faulty) {
            ScheduleDesk x = withGames(games);
            due("results() of " + ahead + text, results(x, ahead + text), -100 - begins);
            due("the tape behind it", x.told(5), 0);
            due("the games behind it", x.told(1), games);
        }
    }

    private static void promise30Room() {
        dueNoRoom(29, "0-1:1-1@1;", 10);
        dueNoRoom(30, "", 0);
        ScheduleDesk x = withGames(29);
        due("no room for the second", results(x, "0-1:1-1@1;0-1:1-1@1"), -110);
        due("what is wrong ahead of it comes first", results(x, "0-1:1-1@1x4;0-1:1-1@1"), -110);
        due("what is wrong ahead of it comes first", results(x, "0-0:1-1@1;0-1:1-1@1"), -102);
        due("what is wrong ahead of it comes first", results(x, "0-1:1-1@1z;0-1:1-1@1"), -109);
        due("nothing came", x.told(1), 29);
        due("room for one", results(x, "1-0:1-2@3x2"), 1);
        dueGame(x, 29, 1, 0, 1, 2, 3, 2, 0, -1);
        x.guess(0, 1, 8, 8);
        x.voids(29, 1);
        due("no room", results(x, "0-1:1-1@1;0-1:1-1@1"), -100);
        due("the guess stays", x.would(2, 0, 0, 0), 0);
        due("void stays", x.of(29, 6), 1);
        x.drop();
        due("not void", results(x, "0-1:1-1@1"), 1);
        due("not void", x.of(29, 6), 0);
    }

    private static ScheduleDesk forPicks() {
        ScheduleDesk x = new ScheduleDesk();
        x.game(0, 1, 5, 3, 10, 1);
        x.game(1, 2, 3, 5, 20, 2);
        x.game(2, 3, 4, 4, 30, 3);
        x.game(3, 0, MUCH, 0, 40, 1);
        x.voids(1, 1);
        return x;
    }

    private static void promise31() {
        promise = "31";
        ScheduleDesk x = forPicks();
        String[] texts = {"home=0", "away>1", "for<5", "against=4", "against=5", "day>20", "weight=1", "void=1", "void=0", "won=1",
            "won=2", "won=0", "margin=-2", "margin<0", "margin>-1", "margin>9999", "margin=-0", "day=0010",
            "!home=0", "!!home=0", "home=0|home=1&away=9", "(home=0|home=1)&away=9", "home=0&away=1|home=3",
            "((((home=0))))", "!(!(home=0))", "!!!!home=0", "(home=1)|((home=2))&(!day=1)", "!(home=0)&!home=1",
            "!home=0&home=1"};
        int[] picks = {1, 6, 6, 4, 2, 12, 9, 2, 13, 9, 2, 4, 2, 2, 13, 8, 4, 1, 14, 1, 1, 0, 9, 1, 1, 1, 6, 12, 2};
        for (int i = 0; i < texts.length; i++) {
            ScheduleDesk y = forPicks();
            due("pick() of " + texts[i], pick(y, texts[i]), picks[i]);
            due("the tape behind it", y.told(5), 0);
        }
        x.cap(1);
        due("margins are capped", pick(x, "margin=1"), 9);
        String[] faulty = {"", "x", "home", "homes=1", "hom", "Home=1", "home>", "home>=1", "home=x", "home=-", "home=--1",
            "home=12345", "home=1&", "home=1|", "home=1&&", "home=1)", "(home=1", "()", "!", "(", "(home=1))",
            "(((((home=0)))))", "!!!!!home=0", "((!(!home=0", "home=0 ", "=1", "home=1&day", "home=1&daz=", "home1",
            "1=home", "home=1!day=1", "home=1(day=1)", "((((!home=0))))", "home=1;", "homez=1", "gome=1", "won=1z"};
        int[] faults = {0, 0, 4, 0, 0, 0, 5, 5, 5, 6, 6, 9, 7, 7, 7, 6, 7, 1, 1, 1, 8, 4, 4, 4, 6, 0, 10, 7, 4, 0, 6, 6,
            4, 6, 0, 0, 5};
        for (int i = 0; i < faulty.length; i++) {
            ScheduleDesk y = forPicks();
            due("pick() of " + faulty[i], pick(y, faulty[i]), -100 - faults[i]);
            due("the tape behind it", y.told(5), 0);
        }
        promise31Deep(forPicks());
        x.teams(2);
        due("of no games", pick(x, "!home=9"), 0);
        for (int g = 0; g < 30; g++) {
            x.game(0, 1, 0, 0, 0, 1);
        }
        due("of all games", pick(x, "!home=9"), (1 << 30) - 1);
    }

    private static void promise31Deep(ScheduleDesk x) {
        due("four within, then four again", pick(x, "((((home=0))))|!!!!home=1"), 3);
        due("a not ends with its part", pick(x, "(!(!home=0&day=10)|(((day=20))))"), 15);
        due("a fifth behind a closed one", pick(x, "(((!home=0&(day=20))))"), 2);
        due("a fifth one within", pick(x, "((!(home=0&(day=20))))"), -111);
    }

    private static void promise32() {
        promise = "32";
        ScheduleDesk x = forPicks();
        due("two more", voidAll(x, "home<3", 1), 2);
        due("of", x.of(0, 6), 1);
        due("of", x.of(3, 6), 0);
        due("the tape is empty", x.told(5), 0);
        due("again", voidAll(x, "home<3", 1), 0);
        due("by what was ahead", voidAll(x, "void=1", 0), 3);
        due("none is", x.told(2), 0);
        due("void by not void", voidAll(x, "void=0&day>10", 1), 3);
        due("is 2", voidAll(x, "home=0", 2), -1);
        due("the tape stays", x.told(5), 6);
        due("is -1", x.voidAll(-1), -1);
        due("then", x.voidAll(1), 1);
        due("fault", voidAll(x, "home=0&", 0), -107);
        due("does nothing", x.told(2), 4);
        due("the tape is empty", x.told(5), 0);
        due("NONE of an empty tape", x.voidAll(2), -1);
        due("an empty tape", x.voidAll(0), -100);
        due("within 4 others", voidAll(x, "!(!(day=10))", 0), 1);
        due("a fifth of them", voidAll(x, "!(!(!day=10))", 1), -104);
        due("within 3 others", voidAll(x, "((((day=10))))", 1), 1);
        x.drop();
        due("a dropped one", voidAll(x, "day=40", 0), 0);
    }

    private static void promise33And34() {
        promise = "33";
        ScheduleDesk x = new ScheduleDesk();
        due("nothing", x.spell(), 0);
        x.game(0, 1, 0, 0, 0, 1);
        x.game(3, 2, 9999, 1000, 99, 3);
        x.game(1, 0, 10, 909, 10, 2);
        x.game(1, 0, 10000, 1, 10, 2);
        x.game(1, 0, 1, 10000, 10, 2);
        x.game(0, 2, 7, 9999, 9, 1);
        x.voids(2, 1);
        due("paper holds nothing yet", x.told(6), 0);
        duePaper(x, "0-1:0-0@0;3-2:9999-1000@99x3;0-2:7-9999@9");
        x.voids(0, 1);
        x.voids(2, 0);
        promise = "34";
        due("the first", x.paper(0), '0');
        due("the last", x.paper(x.told(6) - 1), '9');
        due("behind it", x.paper(x.told(6)), -1);
        due("ahead of it", x.paper(-1), -1);
        promise = "33";
        duePaper(x, "3-2:9999-1000@99x3;1-0:10-909@10x2;0-2:7-9999@9");
        x.teams(6);
        for (int g = 0; g < 30; g++) {
            x.game(5, 4, 1234, 5678, 87, 3);
        }
        due("the longest", x.spell(), 569);
        due("its last", x.paper(568), '3');
        x.teams(2);
        due("paper stays", x.told(6), 569);
        due("the shortest", x.spell(), 0);
        due("nothing there", x.paper(0), -1);
    }

    private static void promise35() {
        promise = "35";
        ScheduleDesk x = forPicks();
        x.game(0, 1, 0, 0, 10, 1);
        x.voids(4, 1);
        x.fixture(0, 1);
        x.feed('a');
        x.feed('b');
        x.spell();
        long[] want = {4, 5, 2, 1, 0, 2, 23, 4, 40};
        for (int what = 0; what < want.length; what++) {
            due("told(" + what + ")", x.told(what), want[what]);
        }
        due("told(-1)", x.told(-1), -1);
        due("told(9)", x.told(9), -1);
        x.guess(0, 1, 0, 0);
        due("a guess", x.told(4), 1);
        x.voids(3, 1);
        due("void ones have their days, too", x.told(8), 40);
        due("void ones have their days, too", x.told(7), 4);
        x.drop();
        x.drop();
        due("games", x.told(1), 3);
        due("void ones but for dropped ones", x.told(2), 1);
        due("days but for dropped ones", x.told(7), 3);
        due("the greatest but for dropped ones", x.told(8), 30);
        x.teams(2);
        x.game(0, 1, 0, 0, 9, 1);
        x.game(0, 1, 0, 0, 8, 1);
        due("the greatest of the first GAME", x.told(8), 9);
    }

    private static void promise36To38() {
        promise = "36";
        ScheduleDesk x = new ScheduleDesk();
        due("list", x.list(-1, 1), -1);
        due("list", x.list(4, 1), -1);
        due("n above", x.list(0, 21), -2);
        due("n below", x.list(0, -1), -14);
        due("NONE ahead of BAD", x.list(4, 21), -1);
        due("nothing yet", x.set(0, 0, 5), -11);
        due("twenty", x.list(0, 20), 1);
        due("none", x.list(1, 0), 1);
        promise = "37";
        due("set", x.set(0, 19, NO), 1);
        due("set", x.set(0, 0, 7), 1);
        due("list", x.set(-1, 0, 5), -1);
        due("list", x.set(4, 0, 5), -1);
        due("nothing", x.set(2, 0, 5), -11);
        due("nothing ahead of beyond", x.set(2, -1, 5), -11);
        due("beyond", x.set(0, 20, 5), -13);
        due("beyond", x.set(0, -1, 5), -13);
        due("beyond an empty row", x.set(1, 0, 5), -13);
        promise = "38";
        due("get", x.get(0, 0), 7);
        due("get", x.get(0, 19), NO);
        due("get", x.get(0, 10), 0);
        due("list", x.get(-1, 0), NO);
        due("list", x.get(4, 0), NO);
        due("nothing", x.get(2, 0), NO);
        due("beyond", x.get(0, 20), NO);
        due("beyond", x.get(0, -1), NO);
        due("beyond", x.get(1, 0), NO);
        promise = "36";
        due("shorter", x.list(0, 2), 1);
        due("all 0", x.get(0, 0), 0);
        due("no more", x.get(0, 2), NO);
        due("wrong ones leave it", x.list(0, 21), -2);
        due("still", x.get(0, 1), 0);
    }

    private static int judged(ScheduleDesk x, int model, long scale, long a, long b) {
        x.list(0, 3);
        x.set(0, 0, scale);
        x.set(0, 1, a);
        x.set(0, 2, b);
        return x.judge(model, 5, 0, 0);
    }

    private static void promise39() {
        promise = "39";
        ScheduleDesk x = pair();
        due("wins", judged(x, 0, 3, 2, 1), -5);
        due("wins on another scale", judged(x, 0, -6, -4, -2), -5);
        due("wins, row 0", judged(x, 0, 3, 3, 1), 0);
        due("wins, row 1", judged(x, 0, 3, 1, -1), 1);
        due("margins", judged(x, 1, 7, 7, -7), -5);
        due("margins, row 1", judged(x, 1, 7, 14, 0), 1);
        due("smooth", judged(x, 2, 3, 2, -2), -5);
        due("smooth, row 1", judged(x, 2, 3, 3, 0), 1);
        due("all of 0", judged(x, 0, 0, 0, 0), -5);
        long quarter = 1L << 61;
        due("a product beyond", judged(x, 2, 0, quarter, 0), -6);
        due("a sum beyond", judged(x, 2, 0, quarter - 1, -3), -6);
        due("a sum within", judged(x, 2, 0, quarter - 1, -1), 0);
        due("beyond by BELOW", judged(x, 0, 0, quarter - 1, -1), -6);
        due("beyond by the scale", judged(x, 0, quarter, 0, 0), -6);
        due("within by the scale", judged(x, 0, quarter - 1, 0, 0), 0);
        due("beyond in row 1 alone, behind a wrong row", judged(x, 2, 1, 0, quarter), 0);
        due("a row that is within just so", judged(x, 1, 0, Long.MAX_VALUE / 2, Long.MAX_VALUE / 2), 1);
        due("beyond in row 1, behind a right row", judged(x, 2, 0, quarter / 2, quarter), -6);
        due("the least long is within", judged(x, 1, 0, NO / 2, 0), 0);
        due("its other sign is beyond", judged(x, 1, 0, 0, NO / 2), -6);
        due("parted doesn't matter", new ScheduleDesk().judge(1, 5, 0, 0), -11);
        promise39Wrong(x);
    }

    private static void promise39Wrong(ScheduleDesk x) {
        due("model", x.judge(3, 5, 0, 0), -1);
        due("model", x.judge(-1, 5, 0, 0), -1);
        due("day", x.judge(0, -1, 0, 0), -1);
        due("day", x.judge(0, 100, 0, 0), -1);
        due("list", x.judge(0, 5, 4, 0), -1);
        due("list", x.judge(0, 5, -1, 0), -1);
        due("nothing", x.judge(0, 5, 1, -1), -11);
        due("i", x.judge(0, 5, 0, -1), -13);
        due("i", x.judge(0, 5, 0, 1), -13);
        due("i", x.judge(0, 5, 0, Integer.MAX_VALUE), -13);
        x.list(1, 0);
        due("an empty row", x.judge(0, 5, 1, 0), -13);
        x.list(1, 20);
        x.set(1, 17, 3);
        x.set(1, 18, 2);
        x.set(1, 19, 1);
        due("at the end", x.judge(0, 5, 1, 17), -5);
        due("behind it", x.judge(0, 5, 1, 18), -13);
        due("ahead of it", x.judge(0, 5, 1, 16), 0);
    }

    private static void promise40And41() {
        promise = "40";
        ScheduleDesk x = ring();
        x.voids(1, 1);
        x.cap(5);
        x.guess(0, 2, 3, 4);
        x.fixture(2, 0);
        long would = x.would(2, 99, 0, 0);
        due("image", x.image(), 3);
        promise = "41";
        x.feed('a');
        x.list(0, 4);
        x.set(0, 0, 9);
        x.spell();
        x.voids(1, 0);
        x.voids(0, 1);
        x.cap(6);
        x.drop();
        x.guess(1, 2, 9, 9);
        x.clears();
        x.fixture(0, 1);
        x.teams(6);
        x.game(4, 5, 1, 1, 7, 3);
        due("undo", x.undo(), 3);
        due("n", x.told(0), 3);
        dueGame(x, 0, 0, 1, 2, 1, 1, 1, 0, 1);
        dueGame(x, 1, 2, 1, 0, 5, 2, 1, 1, -5);
        dueGame(x, 2, 2, 0, 4, 3, 3, 1, 0, 1);
        due("guess", x.would(2, 99, 0, 0), would);
        due("fixtures", x.told(3), 1);
        due("the fixture", x.score(0, 0, 2), 1);
        due("the fixture", x.score(0, 0, 0), 1);
        due("the fixture", x.score(0, 0, 1), 0);
        due("tape", x.told(5), 1);
        due("paper", x.told(6), 19);
        due("list", x.get(0, 0), 9);
        due("cap", x.cap(1), 5);
        x.drop();
        due("the same image again", x.undo(), 3);
        due("cap", x.cap(1), 5);
        due("another", x.image(), 3);
        x.drop();
        due("the other", x.undo(), 3);
        due("its cap", x.cap(2), 1);
        due("none", new ScheduleDesk().undo(), -3);
        ScheduleDesk y = new ScheduleDesk();
        due("of nothing", y.image(), 0);
        y.teams(2);
        y.game(0, 1, 0, 0, 0, 1);
        y.guess(0, 1, 0, 0);
        due("to nothing", y.undo(), 0);
        due("n", y.told(0), 4);
        due("guess", y.told(4), 0);
    }

    public static void main(String[] args) {
        promise1();
        promise2();
        promise3();
        promise4();
        promise5();
        promise6();
        promise7();
        promise8();
        promise9();
        promise10();
        promise11();
        promise12();
        sixTeams();
        promise13();
        promise14();
        promise15();
        promise16();
        promise17();
        promise18();
        promise19();
        promise20();
        promise21();
        promise22();
        promise23();
        promise24();
        promise25();
        promise26();
        promise27();
        promise28And29();
        promise30();
        promise31();
        promise32();
        promise33And34();
        promise35();
        promise36To38();
        promise39();
        promise40And41();
        System.out.println(wrong == 0 ? "all promises are kept" : wrong + " answers are not as due");
        if (wrong != 0) {
            System.exit(1);
        }
    }
}
