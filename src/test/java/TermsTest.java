import java.io.IOException;

/**
 * For each sentence of parts 1 and 2 of the Terms of ../shared/DOC.md a test of its own: the edges that it names,
 * from both sides. TextsTest has the rest of the Terms, BoundariesTest the promises.
 */
public final class TermsTest {
    private static final long NO = Desks.NO;
    private static final long MUCH = Desks.MUCH;

    /** 256 times this is the least number beyond a long; with the other sign it is the least long. */
    private static final long EDGE = 1L << 55;

    private final Sentences terms;

    private TermsTest(Sentences terms) {
        this.terms = terms;
    }

    private void of(String words) {
        terms.of(words);
    }

    private void due(String call, long got, long want) {
        terms.due(call, got, want);
    }

    private void dueRating(ScheduleDesk x, int model, int team, long above, long below) {
        String call = "rating(" + model + ", 99, " + team + ", ";
        due(call + "0)", x.rating(model, 99, team, 0), above);
        due(call + "1)", x.rating(model, 99, team, 1), below);
    }

    private void dueSchedule(ScheduleDesk x, int model, int team, long above, long below) {
        String call = "schedule(" + model + ", 99, " + team + ", ";
        due(call + "0)", x.schedule(model, 99, team, 0), above);
        due(call + "1)", x.schedule(model, 99, team, 1), below);
    }

    private void dueRanks(ScheduleDesk x, int model, int day, int... wants) {
        for (int k = 0; k < wants.length; k++) {
            due("rank(" + model + ", " + day + ", " + k + ")", x.rank(model, day, k), wants[k]);
        }
    }

    private void teams() {
        of("TEAMS 0 .. n less 1 (n 2 .. 6; 4 at first).");
        due("n at first", new ScheduleDesk().told(0), 4);
        due("TEAM 3 at first", new ScheduleDesk().right(0, 0, 3), 2);
        due("TEAM 4 at first", new ScheduleDesk().right(0, 0, 4), NO);
        for (int n = 2; n <= 6; n++) {
            ScheduleDesk x = Desks.of(n);
            due("n", x.told(0), n);
            due("the first", x.right(0, 0, 0), 2);
            due("the last", x.right(0, 0, n - 1), 2);
            due("behind the last", x.right(0, 0, n), NO);
            due("ahead of the first", x.right(0, 0, -1), NO);
            due("a GAME of the last", x.game(n - 1, 0, 0, 0, 0, 1), 0);
            due("a GAME of none", x.game(n, 0, 0, 0, 0, 1), -1);
            due("a GAME of none", x.game(0, n, 0, 0, 0, 1), -1);
        }
        int[] none = {1, 7, 0, -1, Integer.MIN_VALUE, Integer.MAX_VALUE};
        for (int n : none) {
            ScheduleDesk x = new ScheduleDesk();
            due("teams(" + n + ")", x.teams(n), -2);
            due("n", x.told(0), 4);
        }
    }

    private void games() {
        of("GAMES, 30 at most, numbered as they come:");
        ScheduleDesk x = new ScheduleDesk();
        due("none yet", x.of(0, 2), NO);
        for (int g = 0; g < 30; g++) {
            due("its number", x.game(0, 1, 70 + g, 0, 0, 1), g);
        }
        due("one more", x.game(0, 1, 0, 0, 0, 1), -4);
        for (int g = 0; g < 30; g++) {
            due("what it holds", x.of(g, 2), 70 + g);
        }
        due("ahead of the first", x.of(-1, 2), NO);
        due("behind the last", x.of(30, 2), NO);
        x.drop();
        due("the dropped one", x.of(29, 2), NO);
        due("the number of the next", x.game(0, 1, 7, 0, 0, 1), 29);
        due("what that holds", x.of(29, 2), 7);

        of("HOME, AWAY (unlike TEAMS),");
        for (int home = 0; home < 6; home++) {
            ScheduleDesk y = Desks.of(6);
            int count = 0;
            for (int away = 0; away < 6; away++) {
                due(home + " and " + away, y.game(home, away, 0, 0, 0, 1), home == away ? -1 : count);
                count += home == away ? 0 : 1;
            }
            due("HOME", y.of(0, 0), home);
            due("AWAY", y.of(4, 1), home == 5 ? 4 : 5);
        }
    }

    private void numbersOfGames() {
        long[] scores = {0, MUCH, -1, MUCH + 1, NO, Long.MAX_VALUE};
        of("FOR, AGAINST (0 .. 10^15 each: what HOME, AWAY got),");
        for (int k = 0; k < scores.length; k++) {
            ScheduleDesk x = new ScheduleDesk();
            due("FOR " + scores[k], x.game(0, 1, scores[k], 5, 0, 1), k < 2 ? 0 : -2);
            due("what HOME got", x.of(0, 2), k < 2 ? scores[k] : NO);
            ScheduleDesk y = new ScheduleDesk();
            due("AGAINST " + scores[k], y.game(0, 1, 5, scores[k], 0, 1), k < 2 ? 0 : -2);
            due("what AWAY got", y.of(0, 3), k < 2 ? scores[k] : NO);
        }
        int[] days = {0, 1, 98, 99, -1, 100, Integer.MIN_VALUE, Integer.MAX_VALUE};
        of("DAY (0 .. 99),");
        for (int k = 0; k < days.length; k++) {
            ScheduleDesk x = new ScheduleDesk();
            due("DAY " + days[k], x.game(0, 1, 0, 0, days[k], 1), k < 4 ? 0 : -2);
            due("the DAY", x.of(0, 4), k < 4 ? days[k] : NO);
        }
        int[] weights = {1, 2, 3, 0, 4, -1, Integer.MIN_VALUE, Integer.MAX_VALUE};
        of("WEIGHT (1 .. 3);");
        for (int k = 0; k < weights.length; k++) {
            ScheduleDesk x = new ScheduleDesk();
            due("WEIGHT " + weights[k], x.game(0, 1, 0, 0, 0, weights[k]), k < 3 ? 0 : -2);
            due("the WEIGHT", x.of(0, 5), k < 3 ? weights[k] : NO);
        }
        of("VOID or not (at first not).");
        ScheduleDesk x = Desks.pair();
        due("at first", x.of(0, 6), 0);
        x.voids(0, 1);
        due("then", x.of(0, 6), 1);
        x.drop();
        x.game(0, 1, 0, 0, 0, 1);
        due("of the next one in its place", x.of(0, 6), 0);
        x.voids(0, 1);
        x.drop();
        Desks.results(x, "0-1:1-1@1");
        due("of one of RESULTS in its place", x.of(0, 6), 0);
    }

    private void won() {
        of("WON by HOME, if FOR is above AGAINST, by AWAY, if below; else DRAWN.");
        long[][] scores = {{1, 0}, {0, 1}, {0, 0}, {MUCH, MUCH - 1}, {MUCH - 1, MUCH}, {MUCH, MUCH}, {MUCH, 0}, {0, MUCH}};
        int[] by = {1, 2, 0, 1, 2, 0, 1, 2};
        int[] gains = {0, 1, -1};
        for (int k = 0; k < scores.length; k++) {
            ScheduleDesk x = Desks.of(2);
            x.game(0, 1, scores[k][0], scores[k][1], 0, 1);
            // A MARGIN that is capped to 0 leaves it WON.
            x.cap(0);
            for (int who = 0; who < 3; who++) {
                due("won=" + who, Desks.pick(x, "won=" + who), by[k] == who ? 1 : 0);
            }
            due("RIGHT of HOME", x.right(0, 0, 0), 2 + gains[by[k]]);
            due("RIGHT of AWAY", x.right(0, 0, 1), 2 - gains[by[k]]);
            due("SCORE of HOME", x.score(0, 0, 0), 1 + gains[by[k]]);
            due("SCORE of AWAY", x.score(0, 0, 1), 1 - gains[by[k]]);
            due("who beat the other", x.beaten(0, 0, 1), by[k] == 0 ? -5 : by[k] - 1);
        }
    }

    private void margins() {
        of("CAP (0 .. 10^15; 10^15 at first).");
        long[] caps = {0, 1, MUCH, -1, MUCH + 1, NO, Long.MAX_VALUE};
        for (int k = 0; k < caps.length; k++) {
            ScheduleDesk x = new ScheduleDesk();
            due("cap(" + caps[k] + ")", x.cap(caps[k]), k < 3 ? MUCH : -2);
            due("CAP then", x.cap(5), k < 3 ? caps[k] : MUCH);
        }
        of("MARGIN of HOME: FOR less AGAINST, but CAP at most, and no less than -CAP;");
        long[] by = {0, 9, 10, 11};
        for (long cap : by) {
            ScheduleDesk x = Desks.of(2);
            x.game(0, 1, 13, 3, 0, 1);
            x.game(0, 1, 3, 13, 0, 1);
            x.cap(cap);
            due("MARGIN 10 with CAP " + cap, x.of(0, 7), Math.min(10, cap));
            due("MARGIN -10 with CAP " + cap, x.of(1, 7), -Math.min(10, cap));
        }
        ScheduleDesk x = Desks.of(2);
        x.game(0, 1, MUCH, 0, 0, 1);
        x.game(0, 1, 0, MUCH, 0, 1);
        due("the greatest", x.of(0, 7), MUCH);
        due("the least", x.of(1, 7), -MUCH);
        x.cap(MUCH - 1);
        due("just capped", x.of(0, 7), MUCH - 1);
        due("just capped", x.of(1, 7), 1 - MUCH);

        of("of AWAY: that with the other sign.");
        ScheduleDesk y = Desks.of(2);
        y.game(0, 1, 13, 3, 0, 1);
        due("RIGHT of HOME", y.right(2, 0, 0), 10);
        due("RIGHT of AWAY", y.right(2, 0, 1), -10);
        y.cap(4);
        due("capped, of HOME", y.right(2, 0, 0), 4);
        due("capped, of AWAY", y.right(2, 0, 1), -4);
    }

    private void counting() {
        of("As of a DAY d: GAMES count that aren't VOID and whose DAY is d at most.");
        int[] days = {0, 1, 50, 98, 99};
        for (int day : days) {
            ScheduleDesk x = Desks.of(2);
            x.game(0, 1, 1, 0, day, 1);
            for (int d : days) {
                due("GAME of " + day + " as of " + d, x.matrix(0, d, 0, 0), day <= d ? 3 : 2);
                due("who beat the other as of " + d, x.beaten(d, 0, 1), day <= d ? 0 : -5);
                due("SCORE as of " + d, x.score(0, d, 0), day <= d ? 2 : 0);
            }
            if (day > 0) {
                due("a day ahead", x.matrix(0, day - 1, 0, 0), 2);
            }
            x.voids(0, 1);
            due("a VOID one", x.matrix(0, 99, 0, 0), 2);
            x.voids(0, 0);
            due("VOID no more", x.matrix(0, 99, 0, 0), 3);
        }
        of("N(i, j): WEIGHTS of those of i and j together; N(i): of all those of i.");
        ScheduleDesk x = Desks.of(3);
        x.game(0, 1, 0, 0, 0, 3);
        x.game(1, 0, 0, 0, 0, 2);
        x.game(0, 2, 0, 0, 0, 1);
        x.game(2, 0, 0, 0, 1, 3);
        due("N(0, 1)", -x.matrix(0, 0, 0, 1), 5);
        due("N(1, 0)", -x.matrix(0, 0, 1, 0), 5);
        due("N(0, 2)", -x.matrix(0, 0, 0, 2), 1);
        due("N(2, 0), one more counts", -x.matrix(0, 1, 2, 0), 4);
        due("N(1, 2)", x.matrix(0, 1, 1, 2), 0);
        due("N(0)", x.matrix(0, 1, 0, 0), 2 + 9);
        due("N(1)", x.matrix(0, 1, 1, 1), 2 + 5);
        due("N(2)", x.matrix(0, 1, 2, 2), 2 + 4);
    }

    private void dueRows(int model, long[][] matrix, long... right) {
        ScheduleDesk x = Desks.three();
        for (int i = 0; i < 3; i++) {
            for (int j = 0; j < 3; j++) {
                due("MATRIX at " + i + ", " + j, x.matrix(model, 6, i, j), matrix[i][j]);
            }
            due("RIGHT of " + i, x.right(model, 6, i), right[i]);
        }
    }

    private void models() {
        of("MODELS: 0 WINS: MATRIX: 2 and N(i) at i, i; at i, j the other sign of N(i, j). RIGHT of i: 2, and WEIGHTS of "
            + "GAMES that i WON, less those that it lost. BELOW: 2.");
        long[][] wins = {{7, -2, -3}, {-2, 7, -3}, {-3, -3, 8}};
        dueRows(0, wins, 4, -3, 5);
        due("of one that met none", Desks.of(2).matrix(0, 99, 1, 1), 2);
        due("of one that met none", Desks.of(2).right(0, 99, 1), 2);
        dueRating(Desks.of(2), 0, 0, 1, 2);

        of("1 MARGINS: at i, i N(i), at i, j the other sign of N(i, j); RIGHT of i: MARGINS of i times WEIGHTS, together; "
            + "but the last TEAM's row is 1 throughout, its RIGHT 0. BELOW: 1.");
        long[][] margins = {{5, -2, -3}, {-2, 5, -3}, {1, 1, 1}};
        dueRows(1, margins, 8, -38, 0);
        for (int n = 2; n <= 6; n++) {
            ScheduleDesk x = Desks.of(n);
            x.game(n - 2, n - 1, 9, 4, 0, 3);
            for (int j = 0; j < n; j++) {
                due("the last row", x.matrix(1, 0, n - 1, j), 1);
                due("the row ahead", x.matrix(1, 0, n - 2, j), j == n - 2 ? 3 : j == n - 1 ? -3 : 0);
            }
            due("the last RIGHT", x.right(1, 0, n - 1), 0);
            due("the RIGHT ahead", x.right(1, 0, n - 2), 15);
        }
        dueRating(Desks.pair(), 1, 0, 1, 1);

        of("2 SMOOTH: MATRIX as of WINS, RIGHT as of MARGINS (of the last TEAM, too). BELOW: 1.");
        dueRows(2, wins, 8, -38, 30);
        dueRating(Desks.pair(), 2, 0, 2, 3);
    }

    private void determinants() {
        of("DET: the determinant of MATRIX.");
        for (int n = 2; n <= 6; n++) {
            ScheduleDesk x = Desks.of(n);
            due("WINS, no GAMES", x.det(0, 0), 1 << n);
            due("SMOOTH, no GAMES", x.det(2, 0), 1 << n);
            due("MARGINS, no GAMES", x.det(1, 0), 0);
            // As of a chain of GAMES of WEIGHT 1 there is one tree: MARGINS' DET is n.
            for (int i = 1; i < n; i++) {
                x.game(i, i - 1, 1, 0, 0, 1);
            }
            due("MARGINS, a chain", x.det(1, 0), n);
        }
        due("WINS of three", Desks.three().det(0, 6), 7 * (7 * 8 - 9) + 2 * (-2 * 8 - 9) - 3 * (6 + 21));
        due("MARGINS of three", Desks.three().det(1, 6), 63);
        due("SMOOTH of three", Desks.three().det(2, 6), Desks.three().det(0, 6));

        of("COFACTOR i, j: what the MATRIX without its row j and its column i has as determinant, with the other sign if i "
            + "and j together are odd");
        long[][] wants = {{8, -1, 21}, {-1, 8, 21}, {-7, -7, 21}};
        ScheduleDesk x = Desks.three();
        for (int i = 0; i < 3; i++) {
            for (int j = 0; j < 3; j++) {
                due("COFACTOR " + i + ", " + j, x.cofactor(1, 6, i, j), wants[i][j]);
            }
        }
        // n is 2 at least, so that one row is left at the least, and none never.
        of("(1, if n less 1 rows are none).");
        ScheduleDesk y = Desks.pair();
        due("one row is left", y.cofactor(0, 5, 0, 0), y.matrix(0, 5, 1, 1));
        due("one row is left", y.cofactor(1, 5, 0, 1), -y.matrix(1, 5, 0, 1));
        due("one row is left", y.cofactor(1, 5, 1, 0), -y.matrix(1, 5, 1, 0));
        due("of no GAMES", y.cofactor(1, 4, 1, 1), 0);
        due("fewer TEAMS aren't", y.teams(1), -2);
    }

    private void ratings() {
        of("RATING of i: COFACTOR i, j times RIGHT of j, for j 0, 1, .. added up (its TOP), over DET times BELOW.");
        ScheduleDesk x = Desks.three();
        dueRating(x, 1, 0, 34, 21);
        dueRating(x, 1, 1, -104, 21);
        dueRating(x, 1, 2, 10, 3);
        dueRating(Desks.pair(), 0, 0, 2, 3);
        dueRating(Desks.pair(), 0, 1, 1, 3);

        of("PARTED: DET is 0 (of MARGINS alone).");
        ScheduleDesk y = Desks.of(3);
        y.game(0, 1, 1, 0, 1, 1);
        dueRating(y, 1, 0, NO, NO);
        y.game(1, 2, 1, 0, 2, 1);
        dueRating(y, 1, 0, 1, 1);
        due("WINS, as of a day ahead of all", y.rank(0, 0, 0), 0);
        due("SMOOTH, as of a day ahead of all", y.rank(2, 0, 0), 0);
        due("MARGINS, as of a day ahead of all", y.rank(1, 0, 0), -3);
        due("MARGINS, 2 met none", y.rank(1, 1, 0), -3);
        due("MARGINS, all are met", y.rank(1, 2, 0), 0);
        y.voids(1, 1);
        due("MARGINS, 2 met none that counts", y.rank(1, 99, 0), -3);
    }

    private void over() {
        of("OVER (-6): a product, or a sum so far, would be beyond a long.");
        ScheduleDesk x = Desks.productOf256(EDGE - 1);
        dueRating(x, 2, 0, EDGE - 1, 126);
        dueRating(x, 2, 1, 1 - EDGE, 126);
        x = Desks.productOf256(EDGE);
        dueRating(x, 2, 0, NO, NO);
        dueRating(x, 2, 1, -EDGE / 2, 63);
        due("OVER", x.predict(2, 0, 0, 2), -6);
        x = Desks.productOf256(-EDGE);
        dueRating(x, 2, 0, -EDGE / 2, 63);
        dueRating(x, 2, 1, NO, NO);
        x = Desks.productOf256(-EDGE - 1);
        dueRating(x, 2, 0, NO, NO);
        // COFACTORS of 0: 436, 324, 360: 109 times the one RIGHT and 81 times the other are 2^61 less 1, and 2^61.
        x = beatLast(17999999999999920L, 4244975422391391L);
        dueRating(x, 2, 0, 303795221198475961L, 560);
        long first = 17999999999999975L;
        long second = 4244975422391317L;
        x = beatLast(first, second);
        dueRating(x, 2, 0, NO, NO);
        dueRating(x, 2, 1, -5084091685910297L, 35);
        x = beatLast(-first, -second);
        dueRating(x, 2, 0, -37974402649809709L, 70);
        // The same again, but the one that lost is ahead of them: no sum so far is beyond.
        x = Desks.meet(Desks.meet(Desks.of(3), 1, 0, 18, first), 2, 0, 18, second);
        dueRating(x, 2, 1, 37974402649809709L, 70);
    }

    private static ScheduleDesk beatLast(long margins0, long margins1) {
        return Desks.meet(Desks.meet(Desks.of(3), 0, 2, 18, margins0), 1, 2, 18, margins1);
    }

    private void ranks() {
        of("RANKS by RATING, the greatest first, of like ones the least TEAM;");
        ScheduleDesk x = Desks.of(6);
        x.game(5, 3, 1, 0, 1, 1);
        dueRanks(x, 0, 0, 0, 1, 2, 3, 4, 5);
        dueRanks(x, 0, 1, 5, 0, 1, 2, 4, 3);
        dueRanks(x, 2, 1, 5, 0, 1, 2, 4, 3);

        of("there are none, if some TEAM's TOP is OVER, or PARTED.");
        dueRanks(Desks.productOf256(EDGE), 2, 0, -6, -6, -6, -6);
        dueRanks(Desks.productOf256(-EDGE), 2, 0, -6, -6, -6, -6);
        dueRanks(Desks.productOf256(EDGE), 1, 0, -3, -3, -3, -3);
        dueRanks(Desks.productOf256(EDGE - 1), 2, 0, 0, 2, 3, 1);
        dueRanks(Desks.productOf256(1 - EDGE), 2, 0, 1, 2, 3, 0);
        ScheduleDesk lastIsOver = Desks.meet(new ScheduleDesk(), 2, 3, 62, -EDGE);
        dueRating(lastIsOver, 2, 2, -EDGE / 2, 63);
        dueRanks(lastIsOver, 2, 0, -6, -6, -6, -6);
    }

    private void schedules() {
        of("SCHEDULE of i: for j 0, 1, .. N(i, j) times TOP of j, added up (exactly, or OVER), over DET times BELOW times "
            + "N(i);");
        ScheduleDesk x = Desks.of(3);
        x.game(0, 1, 3, 1, 5, 2);
        x.game(2, 0, 9, 0, 6, 1);
        // SMOOTH: DET 44, TOPS -48, -68, 116; of 0: (2 * -68 + 1 * 116) / (44 * 3).
        dueSchedule(x, 2, 0, -5, 33);
        dueSchedule(Desks.pair(), 0, 1, 2, 3);
        dueSchedule(Desks.pair(), 0, 0, 1, 3);
        // 64 times TOP of the other, and TOPS are 8 times RIGHT: at 2^54 one of two is beyond a long.
        long edge = 1L << 54;
        x = Desks.meet(new ScheduleDesk(), 0, 1, 64, edge);
        dueSchedule(x, 2, 0, -edge / 2, 65);
        dueSchedule(x, 2, 1, NO, NO);
        dueRating(x, 2, 0, edge / 2, 65);
        x = Desks.meet(new ScheduleDesk(), 0, 1, 64, edge - 1);
        dueSchedule(x, 2, 0, 1 - edge, 130);
        dueSchedule(x, 2, 1, edge - 1, 130);
        x = Desks.meet(new ScheduleDesk(), 0, 1, 64, -edge - 1);
        dueSchedule(x, 2, 1, NO, NO);
        // Products of 3: 4800, 4800 and -4032 times 10^15; if -4032 comes first, no sum so far is beyond.
        x = metByThree(4 * MUCH, 4 * MUCH, -3 * MUCH);
        dueSchedule(x, 2, 3, NO, NO);
        dueSchedule(x, 2, 0, -4 * MUCH, 31);
        x = metByThree(-3 * MUCH, 4 * MUCH, 4 * MUCH);
        dueSchedule(x, 2, 3, 5800000000000000L, 31);
        noSchedules();
    }

    /** 0, 1 and 2 met 3 alone, those that lost with WEIGHT 3, the others with 6. */
    private static ScheduleDesk metByThree(long... margins) {
        ScheduleDesk x = new ScheduleDesk();
        for (int team = 0; team < 3; team++) {
            Desks.meet(x, team, 3, margins[team] < 0 ? 3 : 6, margins[team]);
        }
        return x;
    }

    private void noSchedules() {
        of("none, if N(i) is 0, or a TOP of a j with N(i, j) above 0 is OVER.");
        ScheduleDesk x = Desks.of(3);
        x.game(0, 1, 3, 1, 5, 2);
        x.game(0, 2, 0, 0, 6, 1);
        due("it met none yet", x.schedule(0, 5, 2, 0), NO);
        due("it met none yet", x.schedule(0, 5, 2, 1), NO);
        dueSchedule(x, 0, 2, x.rating(0, 99, 0, 0), x.rating(0, 99, 0, 1));
        x.voids(1, 1);
        dueSchedule(x, 0, 2, NO, NO);
        // TOP of 0 and of 1 are OVER; 2 and 3 met but each other.
        x = Desks.productOf256(EDGE);
        x.game(2, 3, 0, 0, 0, 1);
        dueSchedule(x, 2, 1, NO, NO);
        dueSchedule(x, 2, 2, 0, 1);
        dueSchedule(x, 2, 3, 0, 1);
        // Now 2 met 0, too, and 3 met 2 alone.
        x.game(0, 2, 0, 0, 0, 1);
        dueSchedule(x, 2, 2, NO, NO);
        dueSchedule(x, 2, 3, 54043195528445952L, 821);
        // TOP of 0 is OVER, but that of 1, whom alone it met, isn't.
        x = Desks.meet(Desks.meet(Desks.of(6), 0, 1, 3, 3 * MUCH), 1, 2, 60, 0);
        dueRating(x, 2, 0, NO, NO);
        dueSchedule(x, 2, 0, -46500000000000000L, 199);
    }

    private void predictedAndUpset() {
        of("PREDICTED, of two TEAMS: the one with the greater RATING.");
        ScheduleDesk x = Desks.of(3);
        x.game(1, 0, 5, 4, 1, 1);
        due("the second", x.predict(2, 1, 0, 1), 1);
        due("the first", x.predict(2, 1, 1, 0), 1);
        due("one that is 0 ahead of one below", x.predict(2, 1, 0, 2), 2);
        due("alike", x.predict(2, 0, 0, 1), -5);

        of("UPSETS: GAMES that count, and were WON by the one with the lesser RATING.");
        x = Desks.of(2);
        x.game(0, 1, 9, 0, 1, 3);
        due("the greater WON", x.upsets(1, 1), 0);
        x.game(0, 1, 0, 1, 2, 1);
        due("AWAY, the lesser, WON", x.upsets(1, 2), 1);
        due("it doesn't count yet", x.upsets(1, 1), 0);
        x.game(1, 0, 1, 0, 3, 1);
        due("HOME, the lesser, WON", x.upsets(1, 3), 2);
        x.game(1, 0, 5, 5, 4, 1);
        due("DRAWN", x.upsets(1, 4), 2);
        x.voids(1, 1);
        due("VOID", x.upsets(1, 4), 1);
        x.voids(1, 0);
        x.game(1, 0, 1, 0, 5, 1);
        due("alike by WINS: 3 WON, and 3 lost", x.upsets(0, 5), 0);
        x = Desks.of(2);
        x.game(1, 0, 1, 0, 0, 1);
        x.game(0, 1, 9, 0, 0, 3);
        due("the first GAME", x.upsets(2, 0), 1);
        x.game(1, 0, 1, 0, 0, 1);
        x.drop();
        due("but for the dropped one", x.upsets(2, 0), 1);
    }

    private void wouldAndWithout() {
        of("THE GUESS: a GAME told (none at first), WEIGHT 1.");
        ScheduleDesk x = Desks.of(2);
        due("at first", x.told(4), 0);
        due("at first", x.would(0, 0, 0, 0), NO);
        x.guess(0, 1, 4, 1);
        due("then", x.told(4), 1);
        // WINS: COFACTORS 3 and 1, RIGHT 3 and 1, DET 8.
        due("WINS", x.would(0, 0, 0, 0), 5);
        due("WINS", x.would(0, 0, 0, 1), 8);
        due("no GAME came", x.told(1), 0);

        of("WOULD: RATINGS, were it one more that counts.");
        int[] days = {0, 5, 99};
        for (int day : days) {
            due("MARGINS as of " + day, x.would(1, day, 0, 0), 3);
            due("MARGINS as of " + day, x.would(1, day, 0, 1), 2);
        }
        x.cap(1);
        due("capped", x.would(1, 0, 1, 0), -1);
        due("the RATING stays", x.rating(1, 99, 0, 0), NO);
        ScheduleDesk full = Desks.meet(Desks.of(2), 0, 1, 84, 0);
        for (int g = full.told(1); g < 30; g++) {
            full.game(0, 1, 0, 0, 0, 1);
        }
        due("thirty GAMES", full.told(1), 30);
        long weights = full.matrix(0, 0, 0, 0) - 2;
        full.guess(0, 1, 1, 0);
        // TOP 2 over (weights + 3)^2 - (weights + 1)^2, which is 4 times (weights + 2).
        due("one more than thirty", full.would(2, 0, 0, 0), 1);
        due("one more than thirty", full.would(2, 0, 0, 1), 2 * (weights + 2));

        of("WITHOUT: RATINGS, were a GAME VOID.");
        for (int g = 0; g < 3; g++) {
            ScheduleDesk whole = Desks.three();
            ScheduleDesk other = Desks.three();
            other.voids(g, 1);
            // THE GUESS is no matter here.
            whole.guess(0, 1, 0, 99);
            for (int team = 0; team < 3; team++) {
                for (int part = 0; part < 2; part++) {
                    due("WITHOUT " + g, whole.without(2, 6, g, team, part), other.rating(2, 6, team, part));
                    due("WITHOUT a VOID one", other.without(2, 6, g, team, part), other.rating(2, 6, team, part));
                    due("as of 5", whole.without(2, 5, 1 + g % 2, team, part), whole.rating(2, 5, team, part));
                }
            }
            due("it isn't VOID", whole.of(g, 6), 0);
        }
    }

    private void duelsAndRings() {
        of("DUELS: unlike twos of TEAMS of which there are GAMES (VOID or not), by their first GAMES.");
        ScheduleDesk x = Desks.of(6);
        int count = 0;
        for (int i = 5; i > 0; i--) {
            for (int j = 0; j < i; j++) {
                x.game(count % 2 == 0 ? i : j, count % 2 == 0 ? j : i, 0, 0, 0, 1);
                x.voids(count, count % 3 == 0 ? 1 : 0);
                count++;
                due("DUELS", x.duel(-1, 0), count);
                due("the lesser", x.duel(count - 1, 0), j);
                due("the other", x.duel(count - 1, 1), i);
            }
        }
        x.game(0, 5, 0, 0, 0, 1);
        due("not a new one", x.duel(-1, 0), 15);
        due("GAMES of the first", x.duel(0, 2), 2);
        due("VOID ones of the first", x.duel(0, 3), 1);

        of("BEATEN as of a DAY: of a two, if the one WON more (WEIGHTS of GAMES that count, between them) than the other.");
        x = Desks.of(3);
        x.game(0, 1, 1, 0, 1, 1);
        x.game(1, 0, 0, 9, 2, 1);
        x.game(1, 0, 1, 0, 3, 2);
        x.game(1, 0, 1, 0, 4, 1);
        x.game(0, 2, 1, 0, 0, 3);
        x.game(0, 1, 7, 7, 0, 3);
        int[] wants = {-5, 0, 0, -5, 1};
        for (int day = 0; day < 5; day++) {
            due("as of " + day, x.beaten(day, 0, 1), wants[day]);
            due("as of " + day, x.beaten(day, 1, 0), wants[day]);
        }
        x.voids(3, 1);
        due("VOID", x.beaten(4, 0, 1), -5);

        of("RINGS: threes of whom the first beat the second, that the third, that the first.");
        for (int way = 0; way < 8; way++) {
            ScheduleDesk y = Desks.of(3);
            y.game(0, 1, 1, way & 1, 0, 1 + (way & 1));
            y.game(1, 2, way >> 1 & 1, 1 - (way >> 1 & 1), 0, 1);
            y.game(2, 0, way >> 2 & 1, 1 - (way >> 2 & 1), 0, 1);
            due("way " + way, y.rings(0), way == 6 ? 1 : 0);
            y.game(1, 0, 4, 0, 1, 3);
            due("the other way", y.rings(1), (way & 6) == 0 ? 1 : 0);
        }
        // Five in a circle, each beat the next two: five threes.
        x = Desks.of(6);
        for (int i = 0; i < 5; i++) {
            x.game(i, (i + 1) % 5, 1, 0, 0, 1);
            x.game(i, (i + 2) % 5, 1, 0, 0, 1);
        }
        due("each three once", x.rings(0), 5);
    }

    private void tables() {
        of("FIXTURES, 12 at most: HOME, AWAY.");
        ScheduleDesk x = Desks.of(6);
        due("none at first", x.told(3), 0);
        for (int f = 1; f <= 12; f++) {
            due("FIXTURE", x.fixture(f % 6, (f + 1) % 6), f);
        }
        due("one more", x.fixture(0, 1), -4);
        due("FIXTURES", x.told(3), 12);
        for (int team = 0; team < 6; team++) {
            due("each has four, all alike", x.score(0, 0, team), 4);
            due("one twice", Desks.of(6).fixture(team, team), -1);
        }
        of("TABLE as of a DAY by a MODEL: SCORES: for each GAME that counts 2 to whom WON it, 1 to each if it was DRAWN "
            + "(whatever its WEIGHT);");
        for (int weight = 1; weight <= 3; weight++) {
            ScheduleDesk y = Desks.of(3);
            y.game(0, 1, 2, 1, 1, weight);
            y.game(0, 1, 1, 2, 2, weight);
            y.game(2, 1, 4, 4, 3, weight);
            int[][] wants = {{0, 0, 0}, {2, 0, 0}, {2, 2, 0}, {2, 3, 1}};
            for (int day = 0; day < 4; day++) {
                for (int team = 0; team < 3; team++) {
                    due("SCORE of " + team + " as of " + day, y.score(2, day, team), wants[day][team]);
                }
            }
            y.voids(1, 1);
            due("but for a VOID one", y.score(2, 99, 1), 1);
        }
        of("for each FIXTURE 2 to the PREDICTED one, 1 to each, if RATINGS are alike.");
        ScheduleDesk y = Desks.of(3);
        y.game(1, 0, 1, 0, 9, 1);
        y.fixture(0, 1);
        y.fixture(1, 2);
        y.fixture(1, 2);
        int[][] wants = {{1, 3, 2}, {0, 2 + 6, 0}};
        for (int team = 0; team < 3; team++) {
            due("all alike", y.score(2, 8, team), wants[0][team]);
            due("1 is PREDICTED", y.score(2, 9, team), wants[1][team]);
        }
        places();
    }

    private void places() {
        of("By SCORES, the greatest first; of like ones by RANKS.");
        ScheduleDesk x = Desks.of(4);
        for (int k = 0; k < 4; k++) {
            due("all alike: place " + k, x.place(0, 0, k), k);
        }
        x.game(0, 1, 0, 1, 0, 1);
        x.game(0, 2, 9, 0, 0, 1);
        x.game(3, 2, 12, 0, 0, 1);
        // SCORES 2, 2, 0, 2; by SMOOTH 3 is ahead of 0, and 0 of 1.
        int[] wants = {3, 0, 1, 2};
        for (int k = 0; k < 4; k++) {
            due("rank " + k, x.rank(2, 0, k), wants[k]);
            due("of like SCORES: place " + k, x.place(2, 0, k), wants[k]);
        }
        x.game(1, 2, 1, 1, 1, 1);
        due("the greatest SCORE", x.place(2, 1, 0), 1);
        due("then by RANKS", x.place(2, 1, 1), 3);
        due("then by RANKS", x.place(2, 1, 2), 0);
        due("the least", x.place(2, 1, 3), 2);
    }

    public static void main(String[] args) throws IOException {
        Sentences terms = new Sentences();
        TermsTest test = new TermsTest(terms);
        terms.part("Terms", "TEAMS 0", "==== 3 ");
        test.teams();
        test.games();
        test.numbersOfGames();
        test.won();
        test.margins();
        test.counting();
        test.models();
        test.determinants();
        test.ratings();
        test.over();
        test.ranks();
        test.schedules();
        test.predictedAndUpset();
        test.wouldAndWithout();
        test.duelsAndRings();
        test.tables();
        terms.end();
    }
}
