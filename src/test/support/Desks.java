/** Desks to look at, and what can be told of them. None of them comes near its 512th call. */
final class Desks {
    static final long NO = Long.MIN_VALUE;
    static final long MUCH = 1000000000000000L;

    /** What is outside of all numbers that the document tells. */
    static final int[] ODD = {Integer.MIN_VALUE, Integer.MAX_VALUE};

    private Desks() {
    }

    /** A call of a desk, or a run of calls, and what it answers. */
    interface Call {
        long on(ScheduleDesk x);
    }

    static ScheduleDesk of(int n) {
        ScheduleDesk x = new ScheduleDesk();
        x.teams(n);
        return x;
    }

    /** Two TEAMS; 0 WON by 3 to 1 on day 5, WEIGHT 2. */
    static ScheduleDesk pair() {
        ScheduleDesk x = of(2);
        x.game(0, 1, 3, 1, 5, 2);
        return x;
    }

    /** Three TEAMS, each met each; the MATRICES of MARGINS have no like COFACTORS across. */
    static ScheduleDesk three() {
        ScheduleDesk x = of(3);
        x.game(0, 1, 7, 3, 5, 2);
        x.game(1, 2, 1, 11, 6, 3);
        x.game(2, 0, 8, 8, 6, 3);
        return x;
    }

    /** Thirty GAMES of 0 and 1. */
    static ScheduleDesk thirty() {
        ScheduleDesk x = new ScheduleDesk();
        for (int g = 0; g < 30; g++) {
            x.game(0, 1, g, 0, 0, 1);
        }
        return x;
    }

    static ScheduleDesk feed(ScheduleDesk x, String text) {
        for (int i = 0; i < text.length(); i++) {
            x.feed(text.charAt(i));
        }
        return x;
    }

    static int results(ScheduleDesk x, String text) {
        return feed(x, text).results();
    }

    static int pick(ScheduleDesk x, String text) {
        return feed(x, text).pick();
    }

    static int voidAll(ScheduleDesk x, String text, int is) {
        return feed(x, text).voidAll(is);
    }

    /**
     * GAMES of two come, on day 0, that have a WEIGHT together, and MARGINS of HOME times WEIGHTS together:
     * 3 to 5 of WEIGHT 1, so that all numbers can be made, the others of WEIGHT 3.
     */
    static ScheduleDesk meet(ScheduleDesk x, int home, int away, int weight, long margins) {
        int ones = weight % 3 + 3;
        long rest = Math.abs(margins);
        for (int left = weight; left > 0;) {
            int one = left > ones ? 3 : 1;
            long margin = Math.min(MUCH, rest / one);
            x.game(home, away, margins > 0 ? margin : 0, margins > 0 ? 0 : margin, 0, one);
            rest -= margin * one;
            left -= one;
        }
        if (rest != 0) {
            throw new IllegalArgumentException("no such GAMES");
        }
        return x;
    }

    /**
     * By SMOOTH: COFACTORS 256 and 248, DET 1008; RIGHT is as told, and that with the other sign. TOP of 0 has
     * 256 times RIGHT as its first product, TOP of 1 has 256 times the other; those of 2 and 3 are 0.
     */
    static ScheduleDesk productOf256(long right) {
        return meet(new ScheduleDesk(), 0, 1, 62, right);
    }

    static String paper(ScheduleDesk x) {
        StringBuilder text = new StringBuilder();
        for (int i = 0; i < x.told(6); i++) {
            text.append((char) x.paper(i));
        }
        return text.toString();
    }

    /** THE IMAGE was just taken of three TEAMS, two GAMES, a CAP, a FIXTURE, a GUESS. */
    static ScheduleDesk imaged() {
        ScheduleDesk x = of(3);
        x.game(0, 1, 50, 3, 10, 1);
        x.game(1, 2, 3, 5, 20, 2);
        x.voids(1, 1);
        x.cap(40);
        x.fixture(2, 0);
        x.guess(0, 2, 7, 1);
        x.image();
        return x;
    }

    /** A desk of which there is something of all that it can hold; a CONDITION is on THE TAPE. */
    static ScheduleDesk busy() {
        ScheduleDesk x = imaged();
        x.game(2, 0, 4, 4, 30, 3);
        x.cap(45);
        x.fixture(0, 1);
        x.guess(1, 2, 1, 0);
        x.list(0, 2);
        x.set(0, 1, -9);
        x.list(3, 0);
        x.spell();
        x.game(2, 1, 6, 0, 40, 1);
        return feed(x, "day>10");
    }

    /** All of a desk but THE PAPER, in one text; behind it the desk is another: THE TAPE was read, THE IMAGE put back. */
    static String told(ScheduleDesk x) {
        StringBuilder text = new StringBuilder(book(x));
        for (int list = 0; list < 4; list++) {
            text.append(" LIST ").append(x.set(list, -1, 0));
            for (int i = 0; i < 20 && x.get(list, i) != NO; i++) {
                text.append(' ').append(x.get(list, i));
            }
        }
        text.append(" TAPE ").append(x.told(5)).append(' ').append(x.pick());
        return text.append(" IMAGE ").append(x.undo()).append(' ').append(book(x)).toString();
    }

    /** All that THE IMAGE keeps, in one text. */
    static String book(ScheduleDesk x) {
        StringBuilder text = new StringBuilder("BOOK");
        for (int what = 0; what < 5; what++) {
            text.append(' ').append(x.told(what));
        }
        for (int g = 0; g < x.told(1); g++) {
            text.append(" GAME");
            for (int what = 0; what < 8; what++) {
                text.append(' ').append(x.of(g, what));
            }
        }
        text.append(" GUESS");
        for (int team = 0; team < x.told(0); team++) {
            text.append(' ').append(x.would(2, 0, team, 0)).append(' ').append(x.would(2, 0, team, 1));
        }
        text.append(" SCORES");
        for (int team = 0; team < x.told(0); team++) {
            text.append(' ').append(x.score(0, 99, team)).append(' ').append(x.score(0, 0, team));
        }
        long cap = x.cap(0);
        x.cap(cap);
        return text.append(" CAP ").append(cap).toString();
    }

    /** What GAMES come to: all that is asked of them as of a DAY, but for WOULD. */
    static String games(ScheduleDesk x, int day) {
        StringBuilder text = new StringBuilder("GAMES");
        for (int model = 0; model < 3; model++) {
            text.append(" MODEL ").append(x.det(model, day)).append(' ').append(x.upsets(model, day));
            for (int i = 0; i < x.told(0); i++) {
                text.append(' ').append(x.right(model, day, i)).append(' ').append(x.matrix(model, day, i, 0));
                text.append(' ').append(x.rating(model, day, i, 0)).append('/').append(x.rating(model, day, i, 1));
                text.append(' ').append(x.schedule(model, day, i, 0)).append('/').append(x.schedule(model, day, i, 1));
                text.append(' ').append(x.rank(model, day, i)).append(' ').append(x.place(model, day, i));
                text.append(' ').append(x.score(model, day, i)).append(' ').append(x.upturns(model, day, i));
                text.append(' ').append(x.without(model, day, 0, i, 0)).append(' ').append(x.cofactor(model, day, i, 0));
            }
        }
        text.append(" DUELS");
        for (int i = 0; i < x.duel(-1, 0); i++) {
            for (int what = 0; what < 4; what++) {
                text.append(' ').append(x.duel(i, what));
            }
        }
        text.append(" RINGS ").append(x.rings(day));
        for (int i = 1; i < x.told(0); i++) {
            text.append(' ').append(x.beaten(day, i - 1, i));
        }
        for (int what = 0; what < 9; what++) {
            text.append(' ').append(x.told(what));
        }
        return text.toString();
    }
}
