import java.io.IOException;

/**
 * For each sentence of the promises of ../shared/DOC.md, and of what it tells of all answers, a test of its own: the
 * edges that it names, from both sides, and each number that it refuses. TermsTest and TextsTest have the Terms.
 */
public final class BoundariesTest {
    private static final long NO = Desks.NO;
    private static final long MUCH = Desks.MUCH;

    /** By SMOOTH: with this as RIGHT, TOP of 0 alone is OVER; with the other sign, that of 1 alone. */
    private static final long EDGE = 1L << 55;

    /** A call with some numbers, and what it answers. */
    private interface Asked {
        long on(int... numbers);
    }

    private final Sentences document;

    private BoundariesTest(Sentences document) {
        this.document = document;
    }

    private void promise(int number) {
        document.part("Promise " + number, "## Promise " + number + ":",
            number < 41 ? "## Promise " + (number + 1) + ":" : "## Not promised");
    }

    private void of(String words) {
        document.of(words);
    }

    private void due(String call, long got, long want) {
        document.due(call, got, want);
    }

    private static int[] ints(int... numbers) {
        return numbers;
    }

    /** Each number is refused, if it is below 0 or above its highest, and taken, if it is at one of these two ends. */
    private void dueEnds(long refusal, int[] usual, int[] highest, Asked asked) {
        for (int place = 0; place < usual.length; place++) {
            int[] wrong = {-1, highest[place] + 1, Integer.MIN_VALUE, Integer.MAX_VALUE};
            int[] numbers = usual.clone();
            for (int number : wrong) {
                numbers[place] = number;
                due("number " + place + " is " + number, asked.on(numbers), refusal);
            }
            int[] taken = {0, usual[place], highest[place]};
            for (int number : taken) {
                numbers[place] = number;
                due("number " + place + " is " + number + ", and refused", asked.on(numbers) == refusal ? 1 : 0, 0);
            }
        }
    }

    /** Three TEAMS, each met each on day 0, and a GUESS, so that all that is asked of TEAMS and DAYS is there. */
    private static ScheduleDesk early() {
        ScheduleDesk x = Desks.of(3);
        x.game(0, 1, 3, 1, 0, 1);
        x.game(1, 2, 5, 2, 0, 1);
        x.game(0, 2, 4, 1, 0, 1);
        x.guess(2, 0, 1, 0);
        return x;
    }

    /** PARTED by MARGINS (2 and 3 met none); by SMOOTH TOP of 0 is OVER. */
    private static ScheduleDesk over() {
        return Desks.productOf256(EDGE);
    }

    private void calls() {
        of("An object is used for at most 512 calls after it has been made; what later calls answer is free.");
        ScheduleDesk x = new ScheduleDesk();
        for (int call = 1; call <= 510; call++) {
            due("call " + call, call % 2 == 1 ? x.feed('!') : x.clear(), 1);
        }
        due("call 511", x.game(0, 1, 1, 0, 0, 1), 0);
        due("call 512", x.rating(2, 0, 0, 0), 1);
    }

    private void answers() {
        of("Answers: NONE (-1) no such number; BAD (-2) a number is not as told; STATE (-3) as told; FULL (-4);");
        due("NONE", ScheduleDesk.NONE, -1);
        due("BAD", ScheduleDesk.BAD, -2);
        due("STATE", ScheduleDesk.STATE, -3);
        due("FULL", ScheduleDesk.FULL, -4);

        of("the first that a call's words name.");
        ScheduleDesk full = Desks.thirty();
        due("game: NONE, BAD, FULL", full.game(0, 0, -1, 0, 0, 1), -1);
        due("game: BAD, FULL", full.game(0, 1, -1, 0, 0, 1), -2);
        due("guess: NONE, BAD", full.guess(0, 4, -1, 0), -1);
        for (int f = 0; f < 12; f++) {
            full.fixture(0, 1);
        }
        due("fixture: NONE, FULL", full.fixture(0, 4), -1);
        Desks.feed(full, "z".repeat(120));
        due("feed: BAD, FULL", full.feed(0), -2);
        due("list: NONE, BAD", full.list(4, 21), -1);
        due("list: NONE, BELOW", full.list(4, -1), -1);
        due("set: NONE, NOTHING", full.set(4, -1, 0), -1);
        due("set: NOTHING, BEYOND", full.set(0, -1, 0), -11);
        due("judge: NONE, NOTHING", full.judge(3, 0, 0, -1), -1);
        due("judge: NOTHING, BEYOND", full.judge(0, 0, 0, -1), -11);
        ScheduleDesk x = over();
        due("rank: NONE, STATE", x.rank(1, 0, 4), -1);
        due("rank: STATE, OVER", x.rank(1, 0, 0), -3);
        due("rank: NONE, OVER", x.rank(2, 0, 4), -1);
        due("predict: NONE, STATE", x.predict(1, 0, 0, 0), -1);
        due("predict: STATE, OVER", x.predict(1, 0, 0, 1), -3);
        due("predict: NONE, OVER", x.predict(2, 0, 0, 4), -1);
        due("upsets: NONE, STATE", x.upsets(1, 100), -1);
        due("upturns: NONE, STATE", x.upturns(1, 0, 24), -1);
        due("upturns: NONE, OVER", x.upturns(2, 0, -1), -1);
        due("score: NONE, STATE", x.score(1, 0, 4), -1);
        due("score: NONE, OVER", x.score(2, 0, 4), -1);
        due("place: NONE, STATE", x.place(1, 0, 4), -1);
        due("place: NONE, OVER", x.place(2, 0, -1), -1);
    }

    private void dueRefused(String call, long want, Desks.Call made) {
        due(call, made.on(Desks.busy()), want);
        dueAsked(call, made);
    }

    /** The call leaves all of a desk as it was. */
    private void dueAsked(String call, Desks.Call made) {
        ScheduleDesk x = Desks.busy();
        made.on(x);
        document.same("THE PAPER behind " + call, Desks.paper(x), Desks.paper(Desks.busy()));
        document.same("all else behind " + call, Desks.told(x), Desks.told(Desks.busy()));
    }

    private void refused() {
        of("What is answered so changes nothing;");
        dueRefused("teams(1)", -2, x -> x.teams(1));
        dueRefused("teams(7)", -2, x -> x.teams(7));
        dueRefused("game of none", -1, x -> x.game(3, 1, 0, 0, 0, 1));
        dueRefused("game of one twice", -1, x -> x.game(1, 1, 0, 0, 0, 1));
        dueRefused("game, FOR", -2, x -> x.game(0, 1, -1, 0, 0, 1));
        dueRefused("game, AGAINST", -2, x -> x.game(0, 1, 0, MUCH + 1, 0, 1));
        dueRefused("game, DAY", -2, x -> x.game(0, 1, 0, 0, 100, 1));
        dueRefused("game, WEIGHT", -2, x -> x.game(0, 1, 0, 0, 0, 4));
        dueRefused("voids of none", -1, x -> x.voids(4, 1));
        dueRefused("voids of 2", -1, x -> x.voids(0, 2));
        dueRefused("voids of -1", -1, x -> x.voids(1, -1));
        dueRefused("cap", -2, x -> x.cap(-1));
        dueRefused("cap", -2, x -> x.cap(MUCH + 1));
        dueRefused("guess of none", -1, x -> x.guess(0, 3, 0, 0));
        dueRefused("guess of one twice", -1, x -> x.guess(2, 2, 0, 0));
        dueRefused("guess, FOR", -2, x -> x.guess(0, 1, MUCH + 1, 0));
        dueRefused("guess, AGAINST", -2, x -> x.guess(0, 1, 0, -1));
        dueRefused("fixture of none", -1, x -> x.fixture(3, 0));
        dueRefused("fixture of one twice", -1, x -> x.fixture(0, 0));
        dueRefused("feed(0)", -2, x -> x.feed(0));
        dueRefused("feed(128)", -2, x -> x.feed(128));
        dueRefused("voidAll(2)", -1, x -> x.voidAll(2));
        dueRefused("voidAll(-1)", -1, x -> x.voidAll(-1));
        dueRefused("list of none", -1, x -> x.list(4, 1));
        dueRefused("list of 21", -2, x -> x.list(0, 21));
        dueRefused("list of -1", -14, x -> x.list(0, -1));
        dueRefused("set of none", -1, x -> x.set(-1, 1, 7));
        dueRefused("set of nothing", -11, x -> x.set(1, 1, 7));
        dueRefused("set beyond", -13, x -> x.set(0, 2, 7));
        dueRefused("set ahead", -13, x -> x.set(0, -1, 7));
        refusedForState();
    }

    private void refusedForState() {
        ScheduleDesk x = Desks.thirty();
        due("a GAME too many", x.game(2, 3, 1, 0, 9, 2), -4);
        due("GAMES", x.told(1), 30);
        due("the last one's HOME", x.of(29, 0), 0);
        due("the greatest DAY", x.told(8), 0);
        x = Desks.of(3);
        for (int f = 0; f < 12; f++) {
            x.fixture(0, 1);
        }
        due("a FIXTURE too many", x.fixture(2, 1), -4);
        due("FIXTURES", x.told(3), 12);
        due("none has 2", x.score(0, 0, 2), 0);
        Desks.feed(x, "day=1|".repeat(19) + "day=00");
        due("a byte too many", x.feed('z'), -4);
        due("bytes", x.told(5), 120);
        due("the text is as it was", x.pick(), 0);
        due("drop() of none", x.drop(), -3);
        due("GAMES", x.told(1), 0);
        due("undo() to none", x.undo(), -3);
        due("n", x.told(0), 3);
        due("undo() to none again", x.undo(), -3);
    }

    private void asked() {
        of("what is asked changes nothing but THE PAPER.");
        for (int k = 0; k < 3; k++) {
            int model = k;
            dueAsked("matrix", x -> x.matrix(model, 99, 2, 2));
            dueAsked("right", x -> x.right(model, 99, 2));
            dueAsked("det", x -> x.det(model, 99));
            dueAsked("cofactor", x -> x.cofactor(model, 99, 0, 0));
            dueAsked("rating", x -> x.rating(model, 99, 0, 1));
            dueAsked("rank", x -> x.rank(model, 99, 0));
            dueAsked("schedule", x -> x.schedule(model, 99, 0, 1));
            dueAsked("predict", x -> x.predict(model, 99, 0, 2));
            dueAsked("upsets", x -> x.upsets(model, 99));
            dueAsked("would", x -> x.would(model, 99, 0, 1));
            dueAsked("without", x -> x.without(model, 99, 0, 0, 1));
            dueAsked("upturns", x -> x.upturns(model, 99, 0));
            dueAsked("score", x -> x.score(model, 99, 0));
            dueAsked("place", x -> x.place(model, 99, 0));
            dueAsked("judge", x -> x.judge(model, 99, 0, 0));
        }
        dueAsked("of", x -> x.of(0, 3));
        dueAsked("duel", x -> x.duel(0, 1));
        dueAsked("beaten", x -> x.beaten(99, 0, 1));
        dueAsked("rings", x -> x.rings(99));
        dueAsked("paper", x -> x.paper(0));
        dueAsked("told", x -> x.told(0));
        dueAsked("get", x -> x.get(0, 1));
        ScheduleDesk x = Desks.busy();
        x.spell();
        document.same("all but THE PAPER behind spell()", Desks.told(x), Desks.told(Desks.busy()));
        x = Desks.busy();
        ScheduleDesk y = Desks.busy();
        due("pick()", x.pick(), 14);
        y.clear();
        document.same("all but THE TAPE behind pick()", Desks.told(x), Desks.told(y));
    }

    private void textsAndFractions() {
        of("-100 less the FAULT of a text; THE TAPE is empty behind each call that reads it.");
        String[] texts = {"", "0-1:1-1@1", "0-1:1-1@", "day=1", "day=", "day", "z"};
        int[][] answers = {{-100, -100, -100}, {1, -100, -100}, {-108, -100, -100}, {-100, 0, 0}, {-100, -104, -104},
            {-100, -103, -103}, {-100, -100, -100}};
        for (int k = 0; k < texts.length; k++) {
            ScheduleDesk x = new ScheduleDesk();
            due("results() of " + texts[k], Desks.results(x, texts[k]), answers[k][0]);
            due("bytes", x.told(5), 0);
            due("the next byte", x.feed('z'), 1);
            x = new ScheduleDesk();
            due("pick() of " + texts[k], Desks.pick(x, texts[k]), answers[k][1]);
            due("bytes", x.told(5), 0);
            due("the next byte", x.feed('z'), 1);
            x = new ScheduleDesk();
            due("voidAll(1) of " + texts[k], Desks.voidAll(x, texts[k], 1), answers[k][2]);
            due("bytes", x.told(5), 0);
            due("the next byte", x.feed('z'), 1);
        }
        of("NO: the least long.");
        due("of", new ScheduleDesk().of(0, 0), -9223372036854775808L);
        due("get", new ScheduleDesk().get(0, 0), -9223372036854775808L);

        of("Fractions are told in lowest terms: part 0 above, 1 below the line (1 or more).");
        due("0 above", Desks.of(2).rating(2, 0, 0, 0), 0);
        due("1 below", Desks.of(2).rating(2, 0, 0, 1), 1);
        due("below 0 above", Desks.pair().rating(2, 5, 1, 0), -2);
        due("1 or more below", Desks.pair().rating(2, 5, 1, 1), 3);
        due("whole ones over 1", Desks.pair().rating(1, 5, 1, 1), 1);
        due("a SCHEDULE below 0", Desks.pair().schedule(1, 5, 0, 0), -1);
        due("a SCHEDULE over 1", Desks.pair().schedule(1, 5, 0, 1), 1);
        for (int margin = 1; margin < 40; margin++) {
            ScheduleDesk x = early();
            x.game(2, 1, margin, 0, 0, 1 + margin % 3);
            for (int k = 0; k < 9; k++) {
                dueLowest(x.rating(k % 3, 0, k / 3, 0), x.rating(k % 3, 0, k / 3, 1));
                dueLowest(x.schedule(k % 3, 0, k / 3, 0), x.schedule(k % 3, 0, k / 3, 1));
                dueLowest(x.would(k % 3, 0, k / 3, 0), x.would(k % 3, 0, k / 3, 1));
            }
        }
        of("A DAY that is asked is 0 .. 99, a MODEL 0 .. 2.");
        Asked[] calls = {n -> early().matrix(n[0], n[1], 0, 0), n -> early().right(n[0], n[1], 0),
            n -> early().det(n[0], n[1]), n -> early().cofactor(n[0], n[1], 0, 0), n -> early().rating(n[0], n[1], 0, 0),
            n -> early().schedule(n[0], n[1], 0, 0), n -> early().would(n[0], n[1], 0, 0),
            n -> early().without(n[0], n[1], 0, 0, 0)};
        for (Asked call : calls) {
            dueEnds(NO, ints(0, 5), ints(2, 99), call);
        }
        Asked[] others = {n -> early().rank(n[0], n[1], 0), n -> early().predict(n[0], n[1], 0, 1),
            n -> early().upsets(n[0], n[1]), n -> early().upturns(n[0], n[1], 0), n -> early().score(n[0], n[1], 0),
            n -> early().place(n[0], n[1], 0)};
        for (Asked call : others) {
            dueEnds(-1, ints(0, 5), ints(2, 99), call);
        }
    }

    private void dueLowest(long above, long below) {
        long a = Math.abs(above);
        long b = below;
        while (b > 0) {
            long rest = a % b;
            a = b;
            b = rest;
        }
        due("what divides " + above + " and " + below, below > 0 ? a : -1, 1);
    }

    private void promises1To4() {
        promise(1);
        of("Four TEAMS, no GAMES.");
        int[] wants = {4, 0, 0, 0, 0, 0, 0, 0, -1};
        for (int what = 0; what < 9; what++) {
            due("told(" + what + ")", new ScheduleDesk().told(what), wants[what]);
        }
        due("a GAME", new ScheduleDesk().of(0, 0), NO);

        promise(2);
        of("There are n TEAMS, no GAMES, THE GUESS, FIXTURES;");
        for (int n = 2; n <= 6; n++) {
            ScheduleDesk x = Desks.busy();
            due("teams(" + n + ")", x.teams(n), 3);
            due("n", x.told(0), n);
            due("GAMES", x.told(1), 0);
            due("a GAME", x.of(0, 0), NO);
            due("VOID ones", x.told(2), 0);
            due("FIXTURES", x.told(3), 0);
            due("SCORE by them", x.score(0, 99, 0), 0);
            due("THE GUESS", x.told(4), 0);
            due("RATING that WOULD be", x.would(0, 99, 0, 0), NO);
        }
        of("CAP is 10^15:");
        ScheduleDesk x = Desks.busy();
        x.teams(3);
        due("CAP", x.cap(0), MUCH);
        of("what n was.");
        x = new ScheduleDesk();
        due("teams(6)", x.teams(6), 4);
        due("teams(6) again", x.teams(6), 6);
        due("teams(2)", x.teams(2), 6);
        due("teams(5)", x.teams(5), 2);
        of("BAD.");
        int[] none = {1, 7, 0, -1, Integer.MIN_VALUE, Integer.MAX_VALUE};
        for (int n : none) {
            due("teams(" + n + ")", x.teams(n), -2);
        }
        due("n", x.told(0), 5);

        promise(3);
        of("A GAME comes: its number.");
        x = new ScheduleDesk();
        due("the first", x.game(3, 2, 8, 9, 4, 2), 0);
        due("the second", x.game(0, 1, 0, 0, 4, 2), 1);
        due("GAMES", x.told(1), 2);
        of("NONE: home, away (one twice, too);");
        dueEnds(-1, ints(1), ints(3), n -> new ScheduleDesk().game(n[0], n[0] == 0 ? 1 : 0, 0, 0, 0, 1));
        dueEnds(-1, ints(1), ints(3), n -> new ScheduleDesk().game(n[0] == 0 ? 1 : 0, n[0], 0, 0, 0, 1));
        for (int team = 0; team < 4; team++) {
            due("one twice", new ScheduleDesk().game(team, team, 0, 0, 0, 1), -1);
        }
        of("BAD: any other;");
        dueEnds(-2, ints(5), ints(99), n -> new ScheduleDesk().game(0, 1, 0, 0, n[0], 1));
        int[] weights = {0, 4, -1, Integer.MIN_VALUE, Integer.MAX_VALUE};
        for (int weight : weights) {
            due("WEIGHT", x.game(0, 1, 0, 0, 0, weight), -2);
        }
        long[] wrong = {-1, MUCH + 1, NO, Long.MAX_VALUE};
        for (long score : wrong) {
            due("FOR", x.game(0, 1, score, 0, 0, 1), -2);
            due("AGAINST", x.game(0, 1, 0, score, 0, 1), -2);
        }
        due("the greatest", x.game(0, 1, MUCH, MUCH, 99, 3), 2);
        due("the least", x.game(0, 1, 0, 0, 0, 1), 3);
        of("FULL.");
        for (int g = 4; g < 30; g++) {
            due("GAME", x.game(0, 1, 0, 0, 0, 1), g);
        }
        due("one more", x.game(0, 1, 0, 0, 0, 1), -4);

        promise(4);
        of("Of a GAME what 0 HOME, 1 AWAY, 2 FOR, 3 AGAINST, 4 DAY, 5 WEIGHT, 6 whether it is VOID (1, 0), 7 MARGIN of HOME.");
        long[] of = {1, 2, 3, 5, 20, 2, 1, -2};
        for (int what = 0; what < 8; what++) {
            due("of(1, " + what + ")", Desks.busy().of(1, what), of[what]);
        }
        due("not VOID", Desks.busy().of(0, 6), 0);
        due("a MARGIN that is capped", Desks.busy().of(0, 7), 45);
        of("NO: game, what.");
        dueEnds(NO, ints(1, 1), ints(3, 7), n -> Desks.busy().of(n[0], n[1]));
    }

    private void promises5To11() {
        promise(5);
        of("A GAME is VOID (1), isn't (0): what it was.");
        ScheduleDesk x = Desks.pair();
        int[] is = {0, 1, 1, 0, 0, 1};
        int was = 0;
        for (int one : is) {
            due("voids(0, " + one + ")", x.voids(0, one), was);
            due("of(0, 6)", x.of(0, 6), one);
            due("whether it counts", x.det(1, 99), one == 1 ? 0 : 4);
            was = one;
        }
        of("NONE: game, is.");
        dueEnds(-1, ints(1, 0), ints(3, 1), n -> Desks.busy().voids(n[0], n[1]));

        promise(6);
        of("CAP becomes another: what it was.");
        x = Desks.pair();
        due("cap(1)", x.cap(1), MUCH);
        due("MARGIN", x.of(0, 7), 1);
        due("cap(0)", x.cap(0), 1);
        due("MARGIN", x.of(0, 7), 0);
        due("cap(10^15)", x.cap(MUCH), 0);
        due("MARGIN", x.of(0, 7), 2);
        of("BAD.");
        long[] wrong = {-1, MUCH + 1, NO, Long.MAX_VALUE};
        for (long cap : wrong) {
            due("cap(" + cap + ")", x.cap(cap), -2);
        }
        due("CAP", x.cap(5), MUCH);

        promise(7);
        of("The last GAME is gone: how many there are.");
        x = Desks.thirty();
        for (int left = 29; left >= 0; left--) {
            due("drop()", x.drop(), left);
            due("the last", x.of(left, 2), NO);
            due("the one ahead", x.of(left - 1, 2), left == 0 ? NO : left - 1);
        }
        for (int k = 0; k < 12; k++) {
            x = Desks.busy();
            due("another GAME", x.game(k / 2 % 3, (k / 2 + 1 + k % 2) % 3, k, 11 - k, 99, 3), 4);
            x.voids(4, k / 6);
            due("drop()", x.drop(), 4);
            document.same("no matter to what is asked", Desks.games(x, 99), Desks.games(Desks.busy(), 99));
            document.same("no matter to all else", Desks.told(x), Desks.told(Desks.busy()));
        }
        of("STATE: there is none.");
        x = new ScheduleDesk();
        due("of a new object", x.drop(), -3);
        x.game(0, 1, 0, 0, 0, 1);
        due("the only one", x.drop(), 0);
        due("none any more", x.drop(), -3);

        promise(8);
        of("MATRIX at i, j.");
        due("at 0, 2", Desks.three().matrix(2, 6, 0, 2), -3);
        due("at 2, 0 by MARGINS", Desks.three().matrix(1, 6, 2, 0), 1);
        of("NO: any.");
        dueEnds(NO, ints(1, 5, 1, 1), ints(2, 99, 2, 2), n -> early().matrix(n[0], n[1], n[2], n[3]));

        promise(9);
        of("RIGHT of i.");
        due("of 1", Desks.three().right(2, 6, 1), -38);
        of("NO: any.");
        dueEnds(NO, ints(1, 5, 1), ints(2, 99, 2), n -> early().right(n[0], n[1], n[2]));

        promise(10);
        of("DET.");
        due("by MARGINS", Desks.three().det(1, 6), 63);
        of("NO: any.");
        dueEnds(NO, ints(1, 5), ints(2, 99), n -> early().det(n[0], n[1]));

        promise(11);
        of("COFACTOR i, j.");
        due("0, 2", Desks.three().cofactor(1, 6, 0, 2), 21);
        due("2, 0", Desks.three().cofactor(1, 6, 2, 0), -7);
        of("NO: any.");
        dueEnds(NO, ints(1, 5, 1, 1), ints(2, 99, 2, 2), n -> early().cofactor(n[0], n[1], n[2], n[3]));
    }

    private void promises12To14() {
        promise(12);
        of("RATING.");
        due("above", Desks.three().rating(1, 6, 1, 0), -104);
        due("below", Desks.three().rating(1, 6, 1, 1), 21);
        of("NO: any;");
        dueEnds(NO, ints(1, 5, 1, 0), ints(2, 99, 2, 1), n -> early().rating(n[0], n[1], n[2], n[3]));
        of("PARTED;");
        due("above", Desks.pair().rating(1, 4, 0, 0), NO);
        due("below", Desks.pair().rating(1, 4, 0, 1), NO);
        due("not PARTED", Desks.pair().rating(1, 5, 0, 0), 1);
        of("OVER.");
        due("above", over().rating(2, 0, 0, 0), NO);
        due("below", over().rating(2, 0, 0, 1), NO);
        due("of one that isn't OVER", over().rating(2, 0, 2, 0), 0);

        promise(13);
        of("The k-th (0: the first) by RANKS.");
        int[] ranks = {0, 1, 2};
        for (int k = 0; k < 3; k++) {
            due("rank " + k, early().rank(2, 0, k), ranks[k]);
        }
        of("NONE: any;");
        dueEnds(-1, ints(1, 5, 1), ints(2, 99, 2), n -> early().rank(n[0], n[1], n[2]));
        of("STATE: PARTED;");
        due("PARTED", Desks.pair().rank(1, 4, 1), -3);
        due("not PARTED", Desks.pair().rank(1, 5, 1), 1);
        of("-6: OVER.");
        due("TOP of 0", over().rank(2, 0, 3), -6);
        due("TOP of 1", Desks.productOf256(-EDGE).rank(2, 0, 3), -6);
        due("none", Desks.productOf256(EDGE - 1).rank(2, 0, 3), 1);

        promise(14);
        of("SCHEDULE.");
        due("above", Desks.pair().schedule(0, 5, 1, 0), 2);
        due("below", Desks.pair().schedule(0, 5, 1, 1), 3);
        of("NO: any;");
        dueEnds(NO, ints(1, 5, 1, 0), ints(2, 99, 2, 1), n -> early().schedule(n[0], n[1], n[2], n[3]));
        of("none;");
        due("above", Desks.pair().schedule(0, 4, 0, 0), NO);
        due("below", Desks.pair().schedule(0, 4, 0, 1), NO);
        due("TOP of whom it met is OVER", over().schedule(2, 0, 1, 0), NO);
        of("PARTED;");
        ScheduleDesk x = Desks.of(3);
        x.game(0, 1, 1, 0, 0, 1);
        due("PARTED", x.schedule(1, 0, 0, 0), NO);
        due("not PARTED", x.schedule(2, 0, 0, 1), 4);
        of("OVER.");
        due("64 times TOP", Desks.meet(new ScheduleDesk(), 0, 1, 64, 1L << 54).schedule(2, 0, 1, 0), NO);
        due("just within", Desks.meet(new ScheduleDesk(), 0, 1, 64, (1L << 54) - 1).schedule(2, 0, 1, 1), 130);
    }

    private void promises15And16() {
        promise(15);
        of("PREDICTED: a TEAM's number;");
        due("0, 2", early().predict(2, 0, 0, 2), 0);
        due("2, 0", early().predict(2, 0, 2, 0), 0);
        due("2, 1", early().predict(2, 0, 2, 1), 1);
        of("-5: RATINGS are alike.");
        due("of no GAMES", Desks.of(2).predict(0, 0, 0, 1), -5);
        due("TOPS of 2 and 3", over().predict(2, 0, 3, 2), -5);
        of("NONE: any (one twice, too);");
        dueEnds(-1, ints(1, 5), ints(2, 99), n -> early().predict(n[0], n[1], 0, 1));
        dueEnds(-1, ints(1), ints(2), n -> early().predict(2, 0, n[0], n[0] == 0 ? 1 : 0));
        dueEnds(-1, ints(1), ints(2), n -> early().predict(2, 0, n[0] == 0 ? 1 : 0, n[0]));
        for (int team = 0; team < 3; team++) {
            due("one twice", early().predict(2, 0, team, team), -1);
        }
        of("STATE: PARTED;");
        due("PARTED", over().predict(1, 0, 0, 1), -3);
        due("not PARTED", Desks.pair().predict(1, 5, 0, 1), 0);
        of("-6: TOP of a or b is OVER.");
        due("of a", over().predict(2, 0, 0, 2), -6);
        due("of b", over().predict(2, 0, 2, 0), -6);
        due("of another", over().predict(2, 0, 1, 2), 2);
        due("of none", Desks.productOf256(EDGE - 1).predict(2, 0, 2, 0), 0);

        promise(16);
        of("UPSETS.");
        ScheduleDesk x = Desks.pair();
        due("none", x.upsets(2, 99), 0);
        x.game(1, 0, 1, 0, 6, 1);
        due("one", x.upsets(2, 99), 1);
        of("NONE: any;");
        dueEnds(-1, ints(1, 5), ints(2, 99), n -> early().upsets(n[0], n[1]));
        of("STATE: PARTED;");
        due("PARTED", Desks.pair().upsets(1, 4), -3);
        due("not PARTED", Desks.pair().upsets(1, 5), 0);
        of("-6: some TOP is OVER.");
        due("TOP of 0", over().upsets(2, 0), -6);
        due("TOP of 1", Desks.productOf256(-EDGE).upsets(2, 0), -6);
        due("TOP of the last", Desks.meet(new ScheduleDesk(), 3, 2, 62, EDGE).upsets(2, 0), -6);
        due("none", Desks.productOf256(EDGE - 1).upsets(2, 0), 0);
    }

    private void promises17And18() {
        promise(17);
        of("THE GUESS becomes a GAME: 1.");
        ScheduleDesk x = Desks.of(2);
        due("the first", x.guess(0, 1, MUCH, 0), 1);
        due("what WOULD be", x.would(1, 0, 0, 0), MUCH / 2);
        due("another", x.guess(1, 0, 0, 6), 1);
        due("what WOULD be", x.would(1, 0, 0, 0), 3);
        due("whether there is one", x.told(4), 1);
        for (int k = 0; k < 6; k++) {
            x = Desks.busy();
            x.guess(k / 2, (k / 2 + 1 + k % 2) % 3, 900, k);
            document.same("no matter to GAMES", Desks.games(x, 99), Desks.games(Desks.busy(), 99));
        }
        of("NONE: home, away;");
        dueEnds(-1, ints(1), ints(3), n -> new ScheduleDesk().guess(n[0], n[0] == 0 ? 1 : 0, 0, 0));
        dueEnds(-1, ints(1), ints(3), n -> new ScheduleDesk().guess(n[0] == 0 ? 1 : 0, n[0], 0, 0));
        due("one twice, as of a GAME", x.guess(1, 1, 0, 0), -1);
        of("BAD: any other.");
        long[] wrong = {-1, MUCH + 1, NO, Long.MAX_VALUE};
        for (long score : wrong) {
            due("FOR", x.guess(0, 1, score, 0), -2);
            due("AGAINST", x.guess(0, 1, 0, score), -2);
        }
        due("the greatest", x.guess(0, 1, MUCH, MUCH), 1);
        due("the least", x.guess(0, 1, 0, 0), 1);

        promise(18);
        of("RATING that WOULD be.");
        x = Desks.pair();
        x.guess(1, 0, 4, 1);
        due("above", x.would(1, 5, 0, 0), 1);
        due("below", x.would(1, 5, 0, 1), 6);
        of("NO: any;");
        dueEnds(NO, ints(1, 5, 1, 0), ints(2, 99, 2, 1), n -> early().would(n[0], n[1], n[2], n[3]));
        of("there is no GUESS;");
        due("none", Desks.pair().would(1, 5, 0, 0), NO);
        x.teams(2);
        due("none any more", x.would(0, 5, 0, 0), NO);
        of("PARTED then;");
        x = Desks.of(3);
        x.game(0, 1, 1, 0, 5, 1);
        x.guess(1, 0, 1, 0);
        due("PARTED", x.would(1, 5, 0, 0), NO);
        x.guess(1, 2, 1, 0);
        due("not PARTED then", x.would(1, 5, 0, 0), 1);
        due("PARTED, as of 4", x.would(1, 4, 0, 0), NO);
        due("PARTED now", x.rating(1, 5, 0, 0), NO);
        of("OVER.");
        x = Desks.productOf256(EDGE - 1);
        x.guess(0, 1, 1, 0);
        due("OVER then", x.would(2, 0, 0, 0), NO);
        due("OVER then", x.would(2, 0, 0, 1), NO);
        due("of another", x.would(2, 0, 2, 1), 1);
        due("not now", x.rating(2, 0, 0, 0), EDGE - 1);
        x = over();
        x.guess(1, 0, MUCH, 0);
        due("OVER now, but not then", x.would(2, 0, 0, 0) == NO ? 1 : 0, 0);
    }

    /** TOP of 0 is OVER, but for the last GAME, which 1 WON by much; more than that GAME's WEIGHT adds. */
    private static ScheduleDesk overWithoutTheLast() {
        ScheduleDesk x = over();
        x.game(0, 1, 0, MUCH, 0, 1);
        return x;
    }

    private void promises19And20() {
        promise(19);
        of("RATING WITHOUT a GAME (of one that doesn't count: as it is).");
        ScheduleDesk x = Desks.pair();
        x.game(1, 0, 4, 1, 6, 1);
        due("WITHOUT 1", x.without(1, 6, 1, 0, 0), 1);
        due("WITHOUT 0", x.without(1, 6, 0, 0, 0), -3);
        due("WITHOUT 0", x.without(1, 6, 0, 0, 1), 2);
        due("of one behind the DAY", x.without(1, 5, 1, 0, 0), 1);
        x.voids(0, 1);
        due("of a VOID one", x.without(1, 6, 0, 0, 0), -3);
        of("NO: any;");
        dueEnds(NO, ints(1, 5, 1, 1, 0), ints(2, 99, 2, 2, 1), n -> early().without(n[0], n[1], n[2], n[3], n[4]));
        of("PARTED then;");
        due("PARTED", x.without(1, 6, 1, 0, 0), NO);
        x.voids(0, 0);
        due("not PARTED", x.without(1, 6, 1, 0, 0), 1);
        due("PARTED as of 5", x.without(1, 5, 0, 0, 0), NO);
        of("OVER.");
        x = overWithoutTheLast();
        int last = x.told(1) - 1;
        due("OVER then", x.without(2, 0, last, 0, 0), NO);
        due("not of 1", x.without(2, 0, last, 1, 0), -EDGE / 2);
        due("not now", x.rating(2, 0, 0, 0) == NO ? 1 : 0, 0);
        due("not WITHOUT another", x.without(2, 0, 0, 0, 0) == NO ? 1 : 0, 0);

        promise(20);
        of("Whether the first by RANKS were another one WITHOUT a GAME: 1, 0.");
        x = Desks.pair();
        x.game(1, 0, 2, 1, 6, 1);
        due("another one", x.upturns(1, 6, 0), 1);
        due("the same", x.upturns(1, 6, 1), 0);
        due("of one behind the DAY", x.upturns(1, 5, 1), 0);
        x.voids(1, 1);
        due("of a VOID one", x.upturns(1, 6, 1), 0);
        ScheduleDesk y = Desks.of(2);
        y.game(1, 0, 1, 0, 0, 1);
        y.guess(1, 0, 9, 0);
        due("alike then: the least is the first", y.upturns(2, 0, 0), 1);
        y.game(0, 1, 3, 0, 0, 1);
        due("0 now, 1 then", y.upturns(2, 0, 1), 1);
        due("0 now and then", y.upturns(2, 0, 0), 0);
        of("NONE: any;");
        dueEnds(-1, ints(1, 5, 1), ints(2, 99, 2), n -> early().upturns(n[0], n[1], n[2]));
        of("STATE: PARTED, now or then;");
        due("then", x.upturns(1, 5, 0), -3);
        due("now and then", x.upturns(1, 4, 0), -3);
        due("PARTED ahead of OVER", over().upturns(1, 0, 0), -3);
        of("-6: OVER, now or then.");
        x = overWithoutTheLast();
        due("then", x.upturns(2, 0, x.told(1) - 1), -6);
        due("neither now nor then", x.upturns(2, 0, 0), 0);
        due("now", over().upturns(2, 0, 0), -6);
        due("not then", over().without(2, 0, 0, 0, 0) == NO ? 1 : 0, 0);
        x = Desks.productOf256(EDGE + 6 * MUCH);
        due("now and then", x.upturns(2, 0, 0), -6);
        due("now and then", x.without(2, 0, 0, 0, 0), NO);
    }

    private void promises21To25() {
        promise(21);
        of("Of the i-th of DUELS what 0 its lesser TEAM, 1 the other, 2 how many GAMES, 3 VOID ones;");
        ScheduleDesk x = new ScheduleDesk();
        x.game(3, 1, 0, 0, 50, 1);
        x.game(0, 2, 0, 0, 99, 3);
        x.game(1, 3, 0, 0, 0, 2);
        x.voids(2, 1);
        int[][] wants = {{1, 3, 2, 1}, {0, 2, 1, 0}};
        for (int i = 0; i < 2; i++) {
            for (int what = 0; what < 4; what++) {
                due("duel(" + i + ", " + what + ")", x.duel(i, what), wants[i][what]);
            }
        }
        of("how many DUELS (i -1, whatever what).");
        int[] whats = {0, 3, -1, 4, Integer.MIN_VALUE, Integer.MAX_VALUE};
        for (int what : whats) {
            due("duel(-1, " + what + ")", x.duel(-1, what), 2);
            due("of none", new ScheduleDesk().duel(-1, what), 0);
        }
        of("NONE: i, what.");
        int[] none = {2, -2, Integer.MIN_VALUE, Integer.MAX_VALUE};
        for (int i : none) {
            due("i " + i, x.duel(i, 0), -1);
        }
        int[] wrong = {4, -1, Integer.MIN_VALUE, Integer.MAX_VALUE};
        for (int what : wrong) {
            due("what " + what, x.duel(1, what), -1);
        }
        due("i of none", new ScheduleDesk().duel(0, 0), -1);

        promise(22);
        of("The one of two who beat the other as of a DAY;");
        due("0", Desks.pair().beaten(5, 0, 1), 0);
        due("0", Desks.pair().beaten(5, 1, 0), 0);
        due("2", Desks.three().beaten(6, 1, 2), 2);
        of("-5: none.");
        due("as of a day ahead", Desks.pair().beaten(4, 0, 1), -5);
        due("DRAWN", Desks.three().beaten(6, 2, 0), -5);
        of("NONE: any (one twice, too).");
        dueEnds(-1, ints(5), ints(99), n -> early().beaten(n[0], 0, 1));
        dueEnds(-1, ints(1), ints(2), n -> early().beaten(0, n[0], n[0] == 0 ? 1 : 0));
        dueEnds(-1, ints(1), ints(2), n -> early().beaten(0, n[0] == 0 ? 1 : 0, n[0]));
        for (int team = 0; team < 3; team++) {
            due("one twice", early().beaten(0, team, team), -1);
        }

        promise(23);
        of("How many RINGS (each three once).");
        x = Desks.of(3);
        due("none", x.rings(99), 0);
        x.game(0, 1, 1, 0, 0, 1);
        x.game(1, 2, 1, 0, 1, 1);
        x.game(0, 2, 0, 1, 2, 1);
        due("none yet", x.rings(1), 0);
        due("one", x.rings(2), 1);
        due("of two TEAMS", Desks.pair().rings(99), 0);
        of("NONE.");
        dueEnds(-1, ints(5), ints(99), n -> early().rings(n[0]));

        promise(24);
        of("A FIXTURE comes: how many there are.");
        x = Desks.of(2);
        for (int f = 1; f <= 12; f++) {
            due("FIXTURE", x.fixture(f % 2, 1 - f % 2), f);
        }
        of("NONE: home, away;");
        dueEnds(-1, ints(1), ints(3), n -> new ScheduleDesk().fixture(n[0], n[0] == 0 ? 1 : 0));
        dueEnds(-1, ints(1), ints(3), n -> new ScheduleDesk().fixture(n[0] == 0 ? 1 : 0, n[0]));
        due("one twice, as of a GAME", new ScheduleDesk().fixture(2, 2), -1);
        of("FULL.");
        due("one more", x.fixture(0, 1), -4);
        due("FIXTURES", x.told(3), 12);

        promise(25);
        of("There are no FIXTURES: how many there were.");
        due("twelve", x.clears(), 12);
        due("FIXTURES", x.told(3), 0);
        due("SCORE", x.score(0, 0, 0), 0);
        due("none", x.clears(), 0);
        due("there is room again", x.fixture(0, 1), 1);
        due("one", x.clears(), 1);
    }

    private void promises26And27() {
        promise(26);
        of("SCORE.");
        ScheduleDesk x = Desks.pair();
        x.fixture(1, 0);
        due("a GAME and a FIXTURE", x.score(1, 5, 0), 4);
        due("none", x.score(1, 5, 1), 0);
        due("a FIXTURE of like ones", x.score(0, 4, 1), 1);
        of("NONE: any;");
        dueEnds(-1, ints(1, 5, 1), ints(2, 99, 2), n -> early().score(n[0], n[1], n[2]));
        of("STATE: PARTED;");
        due("PARTED", x.score(1, 4, 0), -3);
        x.clears();
        due("PARTED, without FIXTURES, too", x.score(1, 4, 0), -3);
        of("-6: some TOP is OVER.");
        for (int team = 0; team < 4; team++) {
            due("TOP of 0", over().score(2, 0, team), -6);
            due("TOP of 1", Desks.productOf256(-EDGE).score(2, 0, team), -6);
        }
        due("none", Desks.productOf256(EDGE - 1).score(2, 0, 3), 0);

        promise(27);
        of("The k-th TEAM of the TABLE.");
        for (int k = 0; k < 3; k++) {
            due("place " + k, early().place(2, 0, k), k);
        }
        x = early();
        x.fixture(2, 1);
        x.fixture(2, 1);
        x.fixture(1, 2);
        due("first by FIXTURES", x.place(2, 0, 0), 1);
        due("then", x.place(2, 0, 1), 0);
        of("NONE: any;");
        dueEnds(-1, ints(1, 5, 1), ints(2, 99, 2), n -> early().place(n[0], n[1], n[2]));
        of("STATE: PARTED;");
        due("PARTED", Desks.pair().place(1, 4, 1), -3);
        due("not PARTED", Desks.pair().place(1, 5, 1), 1);
        of("-6: some TOP is OVER.");
        for (int k = 0; k < 4; k++) {
            due("TOP of 0", over().place(2, 0, k), -6);
            due("TOP of 1", Desks.productOf256(-EDGE).place(2, 0, k), -6);
        }
        due("none", Desks.productOf256(EDGE - 1).place(2, 0, 0), 0);
    }

    private void promises28To32() {
        promise(28);
        of("A byte (1 .. 127) comes behind THE TAPE's: how many it has.");
        ScheduleDesk x = new ScheduleDesk();
        due("the least", x.feed(1), 1);
        due("the greatest", x.feed(127), 2);
        due("another", x.feed(64), 3);
        due("its order", Desks.pick(Desks.feed(Desks.pair(), "da"), "y=5"), 1);
        of("BAD;");
        int[] wrong = {0, 128, -1, 255, 256, Integer.MIN_VALUE, Integer.MAX_VALUE};
        for (int letter : wrong) {
            due("feed(" + letter + ")", x.feed(letter), -2);
        }
        of("FULL.");
        for (int k = 4; k <= 120; k++) {
            due("feed", x.feed(64), k);
        }
        due("one more", x.feed(64), -4);
        due("and one more", x.feed(1), -4);

        promise(29);
        of("THE TAPE is empty then: how many bytes it had.");
        due("full", x.clear(), 120);
        due("bytes", x.told(5), 0);
        due("empty", x.clear(), 0);
        due("the next byte", x.feed(64), 1);
        due("one", x.clear(), 1);

        promise(30);
        of("THE TAPE is RESULTS: how many GAMES came;");
        x = new ScheduleDesk();
        due("one", Desks.results(x, "0-3:21-14@5x2"), 1);
        due("two more", Desks.results(x, "1-2:7-7@6;3-2:9999-0@99"), 2);
        due("GAMES", x.told(1), 3);
        due("the last", x.of(2, 2), 9999);
        of("-100 less the FAULT.");
        due("of an empty one", x.results(), -100);
        due("of a number", Desks.results(x, "0-4:1-1@1"), -102);
        due("of a byte", Desks.results(x, "0-1:1-1@1,"), -109);
        due("of an early end", Desks.results(x, "0-1:1-1@1x"), -110);
        due("GAMES", x.told(1), 3);

        promise(31);
        of("THE TAPE is a CONDITION: GAMES (bits) of which it is so;");
        x = Desks.thirty();
        due("none", Desks.pick(x, "for>29"), 0);
        due("the first", Desks.pick(x, "for=0"), 1);
        due("the last", Desks.pick(x, "for=29"), 1 << 29);
        due("all", Desks.pick(x, "day=0"), (1 << 30) - 1);
        due("not all", Desks.pick(x, "!day=0"), 0);
        due("not none", Desks.pick(x, "!day=1"), (1 << 30) - 1);
        due("of no GAMES", Desks.pick(new ScheduleDesk(), "!day=1"), 0);
        of("-100 less the FAULT.");
        due("of an empty one", x.pick(), -100);
        due("of a WORD", Desks.pick(x, "day=1&dya=1"), -106);
        due("of a byte", Desks.pick(x, "day=1,"), -105);
        due("of an early end", Desks.pick(x, "(day=1"), -106);
        promise32();
    }

    private void promise32() {
        promise(32);
        of("THE TAPE is a CONDITION: GAMES of which it is so (by what is ahead of it) become VOID (1), not (0): how many "
            + "were otherwise;");
        ScheduleDesk x = Desks.thirty();
        due("the last three", Desks.voidAll(x, "for>26", 1), 3);
        due("those, and one more", Desks.voidAll(x, "for>25", 1), 1);
        due("VOID ones", x.told(2), 4);
        due("none else", x.of(25, 6), 0);
        due("by what is ahead", Desks.voidAll(x, "void=0", 1), 26);
        due("by what is ahead", Desks.voidAll(x, "void=1", 0), 30);
        due("again", Desks.voidAll(x, "void=1", 0), 0);
        due("not VOID, and none was", Desks.voidAll(x, "for=3", 0), 0);
        due("the first", Desks.voidAll(x, "for=0", 1), 1);
        due("the first", x.of(0, 6), 1);
        due("bytes", x.told(5), 0);
        of("-100 less the FAULT.");
        due("of an empty one", x.voidAll(1), -100);
        due("of an empty one", x.voidAll(0), -100);
        due("of a WORD", Desks.voidAll(x, "for<9&daz=1", 1), -106);
        due("of an early end", Desks.voidAll(x, "for<9&", 0), -106);
        due("VOID ones", x.told(2), 1);
        due("bytes", x.told(5), 0);
        of("NONE (THE TAPE stays).");
        int[] wrong = {-1, 2, Integer.MIN_VALUE, Integer.MAX_VALUE};
        for (int is : wrong) {
            x.clear();
            due("is " + is, Desks.voidAll(x, "for<9", is), -1);
            due("bytes", x.told(5), 5);
            due("VOID ones", x.told(2), 1);
            Desks.feed(x, "&");
            due("is " + is + " of a text that would have a FAULT", x.voidAll(is), -1);
            due("bytes", x.told(5), 6);
        }
        due("then", Desks.voidAll(x, "for=8", 1), 1);
    }

    private void promises33To35() {
        promise(33);
        of("THE PAPER becomes GAMES SPELLED: how many bytes.");
        ScheduleDesk x = new ScheduleDesk();
        due("none", x.spell(), 0);
        x.game(0, 1, 2, 3, 4, 1);
        x.game(3, 2, 10, 0, 99, 3);
        due("two", x.spell(), 9 + 1 + 13);
        document.same("THE PAPER", Desks.paper(x), "0-1:2-3@4;3-2:10-0@99x3");
        due("bytes", x.told(6), 23);

        promise(34);
        of("Byte i of THE PAPER.");
        String want = "0-1:2-3@4;3-2:10-0@99x3";
        for (int i = 0; i < want.length(); i++) {
            due("paper(" + i + ")", x.paper(i), want.charAt(i));
        }
        of("NONE.");
        int[] none = {-1, 23, Integer.MIN_VALUE, Integer.MAX_VALUE};
        for (int i : none) {
            due("paper(" + i + ")", x.paper(i), -1);
        }
        due("of none", new ScheduleDesk().paper(0), -1);

        promise(35);
        of("What 0 n, 1 GAMES, 2 VOID ones, 3 FIXTURES, 4 whether there is a GUESS (1, 0), 5 bytes of THE TAPE, 6 of THE "
            + "PAPER, 7 unlike DAYS of GAMES, 8 the greatest DAY (-1: no GAMES).");
        int[] told = {3, 4, 1, 2, 1, 6, 24, 4, 40};
        for (int what = 0; what < 9; what++) {
            due("told(" + what + ")", Desks.busy().told(what), told[what]);
        }
        due("no GUESS", Desks.pair().told(4), 0);
        due("one DAY of thirty GAMES", Desks.thirty().told(7), 1);
        due("DAY 0 of thirty GAMES", Desks.thirty().told(8), 0);
        x = Desks.pair();
        x.game(0, 1, 0, 0, 99, 1);
        x.game(0, 1, 0, 0, 5, 1);
        x.voids(1, 1);
        due("the DAY of a VOID one", x.told(8), 99);
        due("unlike DAYS", x.told(7), 2);
        x.drop();
        x.drop();
        x.game(0, 1, 0, 0, 4, 1);
        due("the DAY of the first GAME", x.told(8), 5);
        x.drop();
        x.drop();
        due("no GAMES", x.told(8), -1);
        due("no GAMES", x.told(7), 0);
        of("NONE (8 may be that, too).");
        int[] wrong = {-1, 9, Integer.MIN_VALUE, Integer.MAX_VALUE};
        for (int what : wrong) {
            due("told(" + what + ")", Desks.busy().told(what), -1);
        }
    }

    private void promises36To38() {
        promise(36);
        of("A LIST becomes a row of n longs, all 0: 1.");
        for (int n = 0; n <= 20; n++) {
            ScheduleDesk x = new ScheduleDesk();
            x.list(2, 20);
            for (int i = 0; i < 20; i++) {
                x.set(2, i, 5);
            }
            due("list(2, " + n + ")", x.list(2, n), 1);
            for (int i = 0; i < 20; i++) {
                due("place " + i + " of " + n, x.get(2, i), i < n ? 0 : NO);
            }
        }
        of("NONE: list;");
        dueEnds(-1, ints(1), ints(3), n -> new ScheduleDesk().list(n[0], 5));
        of("BAD: n above 20;");
        due("21", new ScheduleDesk().list(0, 21), -2);
        due("the greatest", new ScheduleDesk().list(0, Integer.MAX_VALUE), -2);
        due("20", new ScheduleDesk().list(0, 20), 1);
        of("BELOW.");
        due("-1", new ScheduleDesk().list(0, -1), -14);
        due("the least", new ScheduleDesk().list(0, Integer.MIN_VALUE), -14);
        due("0", new ScheduleDesk().list(0, 0), 1);

        promise(37);
        of("Place i of a LIST becomes v: 1.");
        ScheduleDesk x = new ScheduleDesk();
        x.list(3, 20);
        x.list(0, 2);
        long[] values = {0, 1, -1, Long.MAX_VALUE, NO + 1};
        for (int k = 0; k < values.length; k++) {
            due("set", x.set(3, k * 19 / 4, values[k]), 1);
            due("get", x.get(3, k * 19 / 4), values[k]);
        }
        due("the others", x.get(3, 1), 0);
        due("the least long", x.set(3, 0, NO), 1);
        of("NONE;");
        dueEnds(-1, ints(1), ints(3), n -> new ScheduleDesk().set(n[0], 0, 5));
        of("NOTHING;");
        due("none is held", x.set(1, 0, 5), -11);
        due("no place of none", x.set(2, 20, 5), -11);
        of("BEYOND.");
        int[] beyond = {-1, 2, 19, Integer.MIN_VALUE, Integer.MAX_VALUE};
        for (int i : beyond) {
            due("place " + i + " of 2", x.set(0, i, 5), -13);
        }
        due("place 20 of 20", x.set(3, 20, 5), -13);
        due("place 1 of 2", x.set(0, 1, 5), 1);

        promise(38);
        of("Place i of a LIST.");
        due("place 0", x.get(0, 0), 0);
        due("place 1", x.get(0, 1), 5);
        due("place 19", x.get(3, 19), NO + 1);
        of("NO: no such LIST, nothing there, no such place.");
        int[] none = {-1, 4, Integer.MIN_VALUE, Integer.MAX_VALUE};
        for (int list : none) {
            due("LIST " + list, x.get(list, 0), NO);
        }
        due("nothing there", x.get(1, 0), NO);
        for (int i : beyond) {
            due("place " + i + " of 2", x.get(0, i), NO);
        }
        due("place 20 of 20", x.get(3, 20), NO);
    }

    private void promise39() {
        promise(39);
        of("JUDGED by a LIST from i on.");
        for (int i = 0; i <= 17; i++) {
            ScheduleDesk x = Desks.pair();
            x.list(3, 20);
            x.set(3, i, 3);
            x.set(3, i + 1, 2);
            x.set(3, i + 2, 1);
            due("right", x.judge(0, 5, 3, i), -5);
            x.set(3, i + 2, 2);
            due("wrong", x.judge(0, 5, 3, i), 0);
        }
        of("NONE: model, day, list;");
        dueEnds(-1, ints(1, 5, 1), ints(2, 99, 3), n -> {
            ScheduleDesk x = early();
            for (int list = 0; list < 4; list++) {
                x.list(list, 20);
            }
            return x.judge(n[0], n[1], n[2], 0);
        });
        of("NOTHING;");
        due("none is held", early().judge(0, 0, 0, 0), -11);
        due("a row of none is held", heldOf(2, 0).judge(0, 0, 0, 0), -13);
        of("BEYOND: i is below 0, or the row ends ahead of the last TEAM's.");
        for (int n = 2; n <= 6; n++) {
            for (int size = 0; size <= 20; size++) {
                for (int i = 0; i < 20; i++) {
                    due(n + " from " + i + " of " + size, heldOf(n, size).judge(2, 0, 0, i), i + n < size ? -5 : -13);
                }
            }
            due("below 0", heldOf(n, 20).judge(2, 0, 0, -1), -13);
            due("the least", heldOf(n, 20).judge(2, 0, 0, Integer.MIN_VALUE), -13);
            due("the greatest", heldOf(n, 20).judge(2, 0, 0, Integer.MAX_VALUE), -13);
        }
    }

    /** So many TEAMS; LIST 0 holds so many longs. */
    private static ScheduleDesk heldOf(int n, int size) {
        ScheduleDesk x = Desks.of(n);
        x.list(0, size);
        return x;
    }

    private void promises40And41() {
        promise(40);
        of("THE IMAGE is taken: how many GAMES.");
        due("none", new ScheduleDesk().image(), 0);
        ScheduleDesk x = Desks.thirty();
        x.voids(0, 1);
        due("thirty", x.image(), 30);
        x.drop();
        due("another one", x.image(), 29);

        promise(41);
        of("All is as THE IMAGE: how many GAMES.");
        x.teams(2);
        due("of the latest one", x.undo(), 29);
        due("GAMES", x.told(1), 29);
        due("VOID ones", x.told(2), 1);
        due("n", x.told(0), 4);
        due("again", x.undo(), 29);
        for (int g = 0; g < 29; g++) {
            due("GAME " + g, x.of(g, 2), g);
        }
        x = new ScheduleDesk();
        x.image();
        x.teams(6);
        x.game(4, 5, 1, 0, 0, 1);
        x.guess(5, 4, 1, 0);
        x.fixture(4, 5);
        x.cap(3);
        due("of a new object", x.undo(), 0);
        document.same("all of it", Desks.book(x), Desks.book(new ScheduleDesk()));
        x = Desks.imaged();
        x.voids(0, 1);
        x.voids(1, 0);
        x.drop();
        x.game(2, 1, 9, 9, 9, 3);
        x.clears();
        x.fixture(1, 2);
        x.guess(1, 2, 0, 5);
        due("what was changed", x.undo(), 2);
        document.same("all of it", Desks.book(x), Desks.book(Desks.imaged()));
        of("STATE: there is none.");
        due("of a new object", new ScheduleDesk().undo(), -3);
        x = Desks.pair();
        due("none was taken", x.undo(), -3);
        x.teams(3);
        due("none was taken", x.undo(), -3);
        x.image();
        due("one was taken", x.undo(), 0);
    }

    public static void main(String[] args) throws IOException {
        Sentences document = new Sentences();
        BoundariesTest test = new BoundariesTest(document);
        document.part("What it is", "An object is used", "## The public face");
        test.calls();
        document.part("Terms", "Answers: ", "## Promise 1:");
        test.answers();
        test.refused();
        test.asked();
        test.textsAndFractions();
        test.promises1To4();
        test.promises5To11();
        test.promises12To14();
        test.promises15And16();
        test.promises17And18();
        test.promises19And20();
        test.promises21To25();
        test.promises26And27();
        test.promises28To32();
        test.promises33To35();
        test.promises36To38();
        test.promise39();
        test.promises40And41();
        document.end();
    }
}
