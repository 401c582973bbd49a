/**
 * A desk for the strength of schedules; what each call promises stands in ../shared/DOC.md.
 *
 * All rows are made with the desk and used again by every call, for all calls of a run share one
 * room: no call makes an object.
 */
public final class ScheduleDesk {
    public static final int NONE = -1, BAD = -2, STATE = -3, FULL = -4;

    private static final int NEITHER = -5;
    private static final int OVER = -6;
    private static final int NOTHING = -11;
    private static final int BEYOND = -13;
    private static final int BELOW = -14;
    private static final int FAULTY = -100;
    private static final int SOLVED = 0;
    private static final int NO_GAME = -1;
    private static final long NO = -9223372036854775808L;

    private static final int WINS = 0;
    private static final int MARGINS = 1;
    private static final int LAST_MODEL = 2;

    private static final int LEAST_TEAMS = 2;
    private static final int MOST_TEAMS = 6;
    private static final int FIRST_TEAMS = 4;
    private static final int MOST_GAMES = 30;
    private static final int MOST_FIXTURES = 12;
    private static final int LAST_DAY = 99;
    private static final int MOST_WEIGHT = 3;
    private static final long MOST_SCORED = 1000000000000000L;
    private static final long MOST_SPELLED = 9999L;
    private static final int TAPE_ROOM = 120;
    private static final int PAPER_ROOM = 570;
    private static final int LISTS = 4;
    private static final int MOST_HELD = 20;
    private static final int MOST_WITHIN = 4;

    /** THE GUESS has the slot behind the last GAME, so that it is reckoned just as they are. */
    private static final int GUESS_SLOT = MOST_GAMES;

    private static final int MARGIN_WORD = 7;
    private static final int WON_WORD = 8;
    private static final int NO_WORD = -1;

    private final Ledger book = new Ledger();
    private final Ledger kept = new Ledger();
    private boolean isKept = false;
    private final Tally tally = new Tally();
    private final Equations rows = new Equations(tally);
    private final Standings standings = new Standings();
    private final Tape tape = new Tape();
    private final Sheet sheet = new Sheet();
    private final Shelf shelf = new Shelf();

    public ScheduleDesk() {
        book.open(FIRST_TEAMS);
    }

    public int teams(int n) {
        if (n < LEAST_TEAMS || n > MOST_TEAMS) {
            return BAD;
        }
        int before = book.teamCount;
        book.open(n);
        return before;
    }

    public int game(int home, int away, long forHome, long against, int day, int weight) {
        if (!book.areTwo(home, away)) {
            return NONE;
        }
        if (!isScore(forHome) || !isScore(against) || !isDay(day) || !isWeight(weight)) {
            return BAD;
        }
        if (book.gameCount >= MOST_GAMES) {
            return FULL;
        }
        int number = book.gameCount;
        book.put(number, home, away, forHome, against, day, weight);
        book.gameCount++;
        return number;
    }

    public long of(int game, int what) {
        if (!book.hasGame(game) || what < 0 || what > MARGIN_WORD) {
            return NO;
        }
        return book.valueOf(game, what);
    }

    public int voids(int game, int is) {
        if (!book.hasGame(game) || !isChoice(is)) {
            return NONE;
        }
        int before = book.voided[game] ? 1 : 0;
        book.voided[game] = is == 1;
        return before;
    }

    public long cap(long cap) {
        if (!isScore(cap)) {
            return BAD;
        }
        long before = book.capNow;
        book.capNow = cap;
        return before;
    }

    public int drop() {
        if (book.gameCount <= 0) {
            return STATE;
        }
        book.gameCount--;
        return book.gameCount;
    }

    public long matrix(int model, int day, int i, int j) {
        if (!isAsked(model, day) || !book.hasTeam(i) || !book.hasTeam(j)) {
            return NO;
        }
        gatherAsOf(model, day);
        return rows.cells[i][j];
    }

    public long right(int model, int day, int i) {
        if (!isAsked(model, day) || !book.hasTeam(i)) {
            return NO;
        }
        gatherAsOf(model, day);
        return rows.rights[i];
    }

    public long det(int model, int day) {
        if (!isAsked(model, day)) {
            return NO;
        }
        gatherAsOf(model, day);
        return rows.determinant();
    }

    public long cofactor(int model, int day, int i, int j) {
        if (!isAsked(model, day) || !book.hasTeam(i) || !book.hasTeam(j)) {
            return NO;
        }
        gatherAsOf(model, day);
        return rows.cofactorAt(i, j);
    }

    public long rating(int model, int day, int team, int part) {
        if (!isAsked(model, day) || !book.hasTeam(team) || !isChoice(part)) {
            return NO;
        }
        gatherAsOf(model, day);
        return rows.ratingPart(team, part);
    }

    public int rank(int model, int day, int k) {
        if (!isAsked(model, day) || !book.hasTeam(k)) {
            return NONE;
        }
        int found = solveAsOf(model, day);
        if (found != SOLVED) {
            return found;
        }
        standings.byRatings(rows);
        return standings.order[k];
    }

    public long schedule(int model, int day, int team, int part) {
        if (!isAsked(model, day) || !book.hasTeam(team) || !isChoice(part)) {
            return NO;
        }
        gatherAsOf(model, day);
        return rows.schedulePart(team, part);
    }

    public int predict(int model, int day, int a, int b) {
        if (!isAsked(model, day) || !book.areTwo(a, b)) {
            return NONE;
        }
        gatherAsOf(model, day);
        if (rows.determinant() == 0) {
            return STATE;
        }
        if (!rows.findTop(a) || !rows.findTop(b)) {
            return OVER;
        }
        return rows.greater(a, b);
    }

    public int upsets(int model, int day) {
        if (!isAsked(model, day)) {
            return NONE;
        }
        int found = solveAsOf(model, day);
        if (found != SOLVED) {
            return found;
        }
        int count = 0;
        for (int g = 0; g < book.gameCount; g++) {
            if (book.counts(g, day) && rows.greater(book.homes[g], book.aways[g]) == book.loserOf(g)) {
                count++;
            }
        }
        return count;
    }

    public int guess(int home, int away, long forHome, long against) {
        if (!book.areTwo(home, away)) {
            return NONE;
        }
        if (!isScore(forHome) || !isScore(against)) {
            return BAD;
        }
        book.put(GUESS_SLOT, home, away, forHome, against, 0, 1);
        book.guessed = true;
        return 1;
    }

    public long would(int model, int day, int team, int part) {
        if (!isAsked(model, day) || !book.hasTeam(team) || !isChoice(part) || !book.guessed) {
            return NO;
        }
        rows.gather(book, model, day, NO_GAME, true);
        return rows.ratingPart(team, part);
    }

    public long without(int model, int day, int game, int team, int part) {
        if (!isAsked(model, day) || !book.hasGame(game) || !book.hasTeam(team) || !isChoice(part)) {
            return NO;
        }
        rows.gather(book, model, day, game, false);
        return rows.ratingPart(team, part);
    }

    public int upturns(int model, int day, int game) {
        if (!isAsked(model, day) || !book.hasGame(game)) {
            return NONE;
        }
        int now = solveAsOf(model, day);
        standings.byRatings(rows);
        int firstNow = standings.order[0];
        rows.gather(book, model, day, game, false);
        int then = rows.solve();
        standings.byRatings(rows);
        if (now == STATE || then == STATE) {
            return STATE;
        }
        if (now == OVER || then == OVER) {
            return OVER;
        }
        return standings.order[0] == firstNow ? 0 : 1;
    }

    public int duel(int i, int what) {
        int wanted = NO_GAME;
        int count = 0;
        for (int g = 0; g < book.gameCount; g++) {
            if (book.beginsDuel(g)) {
                wanted = count == i ? g : wanted;
                count++;
            }
        }
        if (i == -1) {
            return count;
        }
        if (wanted == NO_GAME || what < 0 || what > 3) {
            return NONE;
        }
        int home = book.homes[wanted];
        int away = book.aways[wanted];
        if (what == 0) {
            return Math.min(home, away);
        }
        return what == 1 ? Math.max(home, away) : book.gamesBetween(home, away, what == 3);
    }

    public int beaten(int day, int a, int b) {
        if (!isDay(day) || !book.areTwo(a, b)) {
            return NONE;
        }
        int lead = book.leadOf(day, a, b);
        if (lead == 0) {
            return NEITHER;
        }
        return lead > 0 ? a : b;
    }

    public int rings(int day) {
        if (!isDay(day)) {
            return NONE;
        }
        int count = 0;
        for (int a = 0; a < book.teamCount; a++) {
            for (int b = a + 1; b < book.teamCount; b++) {
                for (int c = b + 1; c < book.teamCount; c++) {
                    count += book.isRing(day, a, b, c) || book.isRing(day, c, b, a) ? 1 : 0;
                }
            }
        }
        return count;
    }

    public int fixture(int home, int away) {
        if (!book.areTwo(home, away)) {
            return NONE;
        }
        if (book.fixtureCount >= MOST_FIXTURES) {
            return FULL;
        }
        book.fixtureHomes[book.fixtureCount] = home;
        book.fixtureAways[book.fixtureCount] = away;
        book.fixtureCount++;
        return book.fixtureCount;
    }

    public int clears() {
        int before = book.fixtureCount;
        book.fixtureCount = 0;
        return before;
    }

    public int score(int model, int day, int team) {
        if (!isAsked(model, day) || !book.hasTeam(team)) {
            return NONE;
        }
        int found = solveAsOf(model, day);
        if (found != SOLVED) {
            return found;
        }
        standings.tellScores(book, rows, day);
        return standings.scores[team];
    }

    public int place(int model, int day, int k) {
        if (!isAsked(model, day) || !book.hasTeam(k)) {
            return NONE;
        }
        int found = solveAsOf(model, day);
        if (found != SOLVED) {
            return found;
        }
        standings.byScores(book, rows, day);
        return standings.order[k];
    }

    public int feed(int letter) {
        if (letter < 1 || letter > 127) {
            return BAD;
        }
        if (tape.length >= TAPE_ROOM) {
            return FULL;
        }
        tape.bytes[tape.length] = (byte) letter;
        tape.length++;
        return tape.length;
    }

    public int clear() {
        int before = tape.length;
        tape.length = 0;
        return before;
    }

    public int results() {
        tape.rewind();
        int found = 0;
        boolean more = true;
        for (int k = 0; k < TAPE_ROOM && more; k++) {
            readGame(book.gameCount + found);
            found++;
            more = tape.skips(';');
        }
        if (!tape.endsWell()) {
            return FAULTY - tape.fault;
        }
        book.gameCount += found;
        return found;
    }

    public int pick() {
        tape.rewind();
        int picked = readEither(0);
        return tape.endsWell() ? picked : FAULTY - tape.fault;
    }

    public int voidAll(int is) {
        if (!isChoice(is)) {
            return NONE;
        }
        tape.rewind();
        int picked = readEither(0);
        if (!tape.endsWell()) {
            return FAULTY - tape.fault;
        }
        int changed = 0;
        for (int g = 0; g < book.gameCount; g++) {
            if ((picked >> g & 1) == 1 && book.voided[g] != (is == 1)) {
                book.voided[g] = is == 1;
                changed++;
            }
        }
        return changed;
    }

    public int spell() {
        sheet.length = 0;
        for (int g = 0; g < book.gameCount; g++) {
            if (!book.voided[g] && book.scored[g] <= MOST_SPELLED && book.conceded[g] <= MOST_SPELLED) {
                sheet.writeGame(book, g);
            }
        }
        return sheet.length;
    }

    public int paper(int i) {
        if (i < 0 || i >= sheet.length) {
            return NONE;
        }
        return sheet.bytes[i];
    }

    public int told(int what) {
        switch (what) {
            case 0:
                return book.teamCount;
            case 1:
                return book.gameCount;
            case 2:
                return book.countVoided();
            case 3:
                return book.fixtureCount;
            case 4:
                return book.guessed ? 1 : 0;
            case 5:
                return tape.length;
            case 6:
                return sheet.length;
            case 7:
                return book.countDays();
            case 8:
                return book.greatestDay();
            default:
                return NONE;
        }
    }

    public int list(int list, int n) {
        if (!isList(list)) {
            return NONE;
        }
        if (n > MOST_HELD) {
            return BAD;
        }
        if (n < 0) {
            return BELOW;
        }
        shelf.hold(list, n);
        return 1;
    }

    public int set(int list, int i, long v) {
        if (!isList(list)) {
            return NONE;
        }
        if (shelf.sizes[list] < 0) {
            return NOTHING;
        }
        if (!shelf.hasPlace(list, i)) {
            return BEYOND;
        }
        shelf.held[list][i] = v;
        return 1;
    }

    public long get(int list, int i) {
        if (!isList(list) || !shelf.hasPlace(list, i)) {
            return NO;
        }
        return shelf.held[list][i];
    }

    public int judge(int model, int day, int list, int i) {
        if (!isAsked(model, day) || !isList(list)) {
            return NONE;
        }
        if (shelf.sizes[list] < 0) {
            return NOTHING;
        }
        if (i < 0 || i >= shelf.sizes[list] - book.teamCount) {
            return BEYOND;
        }
        gatherAsOf(model, day);
        return rows.firstWrongRow(shelf.held[list], i);
    }

    public int image() {
        kept.copyFrom(book);
        isKept = true;
        return kept.gameCount;
    }

    public int undo() {
        if (!isKept) {
            return STATE;
        }
        book.copyFrom(kept);
        return book.gameCount;
    }

    private static boolean isAsked(int model, int day) {
        return model >= 0 && model <= LAST_MODEL && isDay(day);
    }

    private static boolean isDay(int day) {
        return day >= 0 && day <= LAST_DAY;
    }

    private static boolean isScore(long count) {
        return count >= 0 && count <= MOST_SCORED;
    }

    private static boolean isWeight(int weight) {
        return weight >= 1 && weight <= MOST_WEIGHT;
    }

    private static boolean isChoice(int number) {
        return number == 0 || number == 1;
    }

    private static boolean isList(int list) {
        return list >= 0 && list < LISTS;
    }

    private void gatherAsOf(int model, int day) {
        rows.gather(book, model, day, NO_GAME, false);
    }

    /** SOLVED, or what is answered where there are no RANKS. */
    private int solveAsOf(int model, int day) {
        gatherAsOf(model, day);
        return rows.solve();
    }

    /** Above over below in lowest terms; the line's lower side is 1 or more wherever it is asked. */
    private static long partOf(long above, long below, int part) {
        if (below < 1) {
            return NO;
        }
        long common = below;
        // The remainder is taken first: the least long has no positive twin, a remainder has.
        long rest = Math.abs(above % below);
        for (int step = 0; step < 100 && rest != 0; step++) {
            long next = common % rest;
            common = rest;
            rest = next;
        }
        return part == 0 ? above / common : below / common;
    }

    /** Reads a GAME into a slot that counts for nothing until the whole text has no FAULT. */
    private void readGame(int slot) {
        // Without room a GAME is at fault where it begins: no byte of it comes ahead of that place.
        if (slot >= MOST_GAMES) {
            tape.failAt(tape.at);
            return;
        }
        int home = readTeam(NONE);
        tape.need('-');
        int away = readTeam(home);
        tape.need(':');
        int forHome = tape.number(4);
        tape.need('-');
        int against = tape.number(4);
        tape.need('@');
        int day = tape.number(2);
        int weight = tape.skips('x') ? readWeight() : 1;
        if (tape.failed()) {
            return;
        }
        book.put(slot, home, away, forHome, against, day, weight);
    }

    private int readTeam(int other) {
        int start = tape.at;
        int team = tape.number(1);
        if (!book.hasTeam(team) || team == other) {
            tape.failAt(start);
        }
        return team;
    }

    private int readWeight() {
        int start = tape.at;
        int weight = tape.number(1);
        if (!isWeight(weight)) {
            tape.failAt(start);
        }
        return weight;
    }

    /**
     * The GAMES, as bits, of which a part of the CONDITION on THE TAPE is so: reckoned while it is
     * read, for all GAMES at once, so that no tree of it need be kept.
     */
    private int readEither(int within) {
        int picked = readBoth(within);
        for (int k = 0; k < TAPE_ROOM && tape.skips('|'); k++) {
            picked |= readBoth(within);
        }
        return picked;
    }

    private int readBoth(int within) {
        int picked = readOne(within);
        for (int k = 0; k < TAPE_ROOM && tape.skips('&'); k++) {
            picked &= readOne(within);
        }
        return picked;
    }

    private int readOne(int within) {
        if (within < MOST_WITHIN && tape.skips('!')) {
            return book.everyGame() & ~readOne(within + 1);
        }
        if (within < MOST_WITHIN && tape.skips('(')) {
            int picked = readEither(within + 1);
            tape.need(')');
            return picked;
        }
        return readComparison();
    }

    private int readComparison() {
        int word = tape.word();
        int sign = tape.comparer();
        boolean isBelowZero = tape.skips('-');
        int number = tape.number(4);
        if (tape.failed()) {
            return 0;
        }
        return book.gamesWith(word, sign, isBelowZero ? -number : number);
    }

    /** All that THE IMAGE keeps. */
    private static final class Ledger {
        private int teamCount;
        private int gameCount;
        private int fixtureCount;
        private long capNow;
        private boolean guessed;
        private final int[] homes = new int[MOST_GAMES + 1];
        private final int[] aways = new int[MOST_GAMES + 1];
        private final long[] scored = new long[MOST_GAMES + 1];
        private final long[] conceded = new long[MOST_GAMES + 1];
        private final int[] days = new int[MOST_GAMES + 1];
        private final int[] weights = new int[MOST_GAMES + 1];
        private final boolean[] voided = new boolean[MOST_GAMES + 1];
        private final int[] fixtureHomes = new int[MOST_FIXTURES];
        private final int[] fixtureAways = new int[MOST_FIXTURES];

        void open(int n) {
            teamCount = n;
            gameCount = 0;
            fixtureCount = 0;
            capNow = MOST_SCORED;
            guessed = false;
        }

        void copyFrom(Ledger other) {
            teamCount = other.teamCount;
            gameCount = other.gameCount;
            fixtureCount = other.fixtureCount;
            capNow = other.capNow;
            guessed = other.guessed;
            for (int g = 0; g <= MOST_GAMES; g++) {
                homes[g] = other.homes[g];
                aways[g] = other.aways[g];
                scored[g] = other.scored[g];
                conceded[g] = other.conceded[g];
                days[g] = other.days[g];
                weights[g] = other.weights[g];
                voided[g] = other.voided[g];
            }
            for (int f = 0; f < MOST_FIXTURES; f++) {
                fixtureHomes[f] = other.fixtureHomes[f];
                fixtureAways[f] = other.fixtureAways[f];
            }
        }

        void put(int slot, int home, int away, long forHome, long against, int day, int weight) {
            homes[slot] = home;
            aways[slot] = away;
            scored[slot] = forHome;
            conceded[slot] = against;
            days[slot] = day;
            weights[slot] = weight;
            voided[slot] = false;
        }

        boolean hasTeam(int team) {
            return team >= 0 && team < teamCount;
        }

        boolean areTwo(int a, int b) {
            return hasTeam(a) && hasTeam(b) && a != b;
        }

        boolean hasGame(int g) {
            return g >= 0 && g < gameCount;
        }

        boolean counts(int g, int day) {
            return !voided[g] && days[g] <= day;
        }

        boolean isBetween(int g, int a, int b) {
            return homes[g] == a && aways[g] == b || homes[g] == b && aways[g] == a;
        }

        long marginOf(int g) {
            long margin = scored[g] - conceded[g];
            if (margin > capNow) {
                return capNow;
            }
            return margin < -capNow ? -capNow : margin;
        }

        /** 1, 0, -1: HOME won, DRAWN, AWAY won. */
        int outcomeOf(int g) {
            if (scored[g] == conceded[g]) {
                return 0;
            }
            return scored[g] > conceded[g] ? 1 : -1;
        }

        /** Who lost a GAME; of a DRAWN one no TEAM's number. */
        int loserOf(int g) {
            int outcome = outcomeOf(g);
            if (outcome == 0) {
                return NONE;
            }
            return outcome > 0 ? aways[g] : homes[g];
        }

        long valueOf(int g, int what) {
            switch (what) {
                case 0:
                    return homes[g];
                case 1:
                    return aways[g];
                case 2:
                    return scored[g];
                case 3:
                    return conceded[g];
                case 4:
                    return days[g];
                case 5:
                    return weights[g];
                case 6:
                    return voided[g] ? 1 : 0;
                case MARGIN_WORD:
                    return marginOf(g);
                default:
                    return outcomeOf(g) < 0 ? 2 : outcomeOf(g);
            }
        }

        int everyGame() {
            return (1 << gameCount) - 1;
        }

        int gamesWith(int word, int sign, int number) {
            int picked = 0;
            for (int g = 0; g < gameCount; g++) {
                int compared = Long.compare(valueOf(g, word), number);
                if (sign == '<' && compared < 0 || sign == '=' && compared == 0 || sign == '>' && compared > 0) {
                    picked |= 1 << g;
                }
            }
            return picked;
        }

        boolean beginsDuel(int g) {
            for (int earlier = 0; earlier < g; earlier++) {
                if (isBetween(earlier, homes[g], aways[g])) {
                    return false;
                }
            }
            return true;
        }

        int gamesBetween(int a, int b, boolean voidOnly) {
            int count = 0;
            for (int g = 0; g < gameCount; g++) {
                if (isBetween(g, a, b) && (voided[g] || !voidOnly)) {
                    count++;
                }
            }
            return count;
        }

        /** WEIGHTS that a WON of b, less those that b WON of a. */
        int leadOf(int day, int a, int b) {
            int lead = 0;
            for (int g = 0; g < gameCount; g++) {
                if (counts(g, day) && isBetween(g, a, b)) {
                    int gain = outcomeOf(g) * weights[g];
                    lead += homes[g] == a ? gain : -gain;
                }
            }
            return lead;
        }

        boolean isRing(int day, int a, int b, int c) {
            return leadOf(day, a, b) > 0 && leadOf(day, b, c) > 0 && leadOf(day, c, a) > 0;
        }

        int countVoided() {
            int count = 0;
            for (int g = 0; g < gameCount; g++) {
                count += voided[g] ? 1 : 0;
            }
            return count;
        }

        int countDays() {
            int count = 0;
            for (int g = 0; g < gameCount; g++) {
                boolean isNew = true;
                for (int earlier = 0; earlier < g; earlier++) {
                    isNew = isNew && days[earlier] != days[g];
                }
                count += isNew ? 1 : 0;
            }
            return count;
        }

        int greatestDay() {
            int greatest = -1;
            for (int g = 0; g < gameCount; g++) {
                greatest = Math.max(greatest, days[g]);
            }
            return greatest;
        }
    }

    /** A sum of products that knows whether one of them, or the sum so far, was beyond a long. */
    private static final class Tally {
        private long sum;
        private boolean isOver;

        void start() {
            sum = 0;
            isOver = false;
        }

        void addProduct(long a, long b) {
            long product = a * b;
            // The least long times -1 wraps to itself: dividing back would not show it.
            if (b == -1 && a == NO || b != 0 && product / b != a) {
                isOver = true;
            }
            long total = sum + product;
            if (((sum ^ total) & (product ^ total)) < 0) {
                isOver = true;
            }
            sum = total;
        }
    }

    /** The rows of a MODEL as of a DAY, and what solves them. */
    private static final class Equations {
        private final Tally tally;
        private int n;
        private long below;
        private final long[][] cells = new long[MOST_TEAMS][MOST_TEAMS];
        private final long[] rights = new long[MOST_TEAMS];
        private final int[][] met = new int[MOST_TEAMS][MOST_TEAMS];
        private final int[] played = new int[MOST_TEAMS];
        private final long[] tops = new long[MOST_TEAMS];
        private final long[] minors = new long[1 << MOST_TEAMS];

        Equations(Tally tally) {
            this.tally = tally;
        }

        void gather(Ledger book, int model, int day, int leftOut, boolean withGuess) {
            n = book.teamCount;
            below = model == WINS ? 2 : 1;
            for (int i = 0; i < n; i++) {
                rights[i] = model == WINS ? 2 : 0;
                played[i] = 0;
                for (int j = 0; j < n; j++) {
                    met[i][j] = 0;
                }
            }
            for (int g = 0; g < book.gameCount; g++) {
                if (g != leftOut && book.counts(g, day)) {
                    enter(book, g, model);
                }
            }
            if (withGuess) {
                enter(book, GUESS_SLOT, model);
            }
            layOut(model);
        }

        private void enter(Ledger book, int g, int model) {
            int home = book.homes[g];
            int away = book.aways[g];
            int weight = book.weights[g];
            met[home][away] += weight;
            met[away][home] += weight;
            played[home] += weight;
            played[away] += weight;
            long gain = (model == WINS ? book.outcomeOf(g) : book.marginOf(g)) * weight;
            rights[home] += gain;
            rights[away] -= gain;
        }

        private void layOut(int model) {
            for (int i = 0; i < n; i++) {
                for (int j = 0; j < n; j++) {
                    cells[i][j] = -met[i][j];
                }
                cells[i][i] = model == MARGINS ? played[i] : played[i] + 2;
            }
            if (model == MARGINS) {
                for (int j = 0; j < n; j++) {
                    cells[n - 1][j] = 1;
                }
                rights[n - 1] = 0;
            }
        }

        long determinant() {
            return minorWithout(n, n, n);
        }

        long cofactorAt(int i, int j) {
            long minor = minorWithout(j, i, n - 1);
            return (i + j) % 2 == 0 ? minor : -minor;
        }

        /**
         * The determinant of the cells without a row and a column (n: without none). Each set of
         * columns has its minor with as many first rows, told by the sets with one column less:
         * no division, so no pivot that may be 0.
         */
        private long minorWithout(int noRow, int noColumn, int size) {
            minors[0] = 1;
            for (int columns = 1; columns < 1 << size; columns++) {
                int row = Integer.bitCount(columns) - 1;
                row += row >= noRow ? 1 : 0;
                long sum = 0;
                int sign = 1;
                for (int c = size - 1; c >= 0; c--) {
                    if ((columns >> c & 1) == 1) {
                        long cell = cells[row][c >= noColumn ? c + 1 : c];
                        sum += sign * cell * minors[columns ^ 1 << c];
                        sign = -sign;
                    }
                }
                minors[columns] = sum;
            }
            return minors[(1 << size) - 1];
        }

        /** Whether the TEAM's TOP is no OVER one; then it is among the tops. */
        boolean findTop(int team) {
            tally.start();
            for (int j = 0; j < n; j++) {
                tally.addProduct(cofactorAt(team, j), rights[j]);
            }
            tops[team] = tally.sum;
            return !tally.isOver;
        }

        /** Finds all tops: SOLVED, or what is answered where there are no RANKS. */
        int solve() {
            if (determinant() == 0) {
                return STATE;
            }
            int found = SOLVED;
            for (int i = 0; i < n; i++) {
                if (!findTop(i)) {
                    found = OVER;
                }
            }
            return found;
        }

        /** All RATINGS stand over one line that is above 0, so their tops tell which is greater. */
        int greater(int a, int b) {
            if (tops[a] == tops[b]) {
                return NEITHER;
            }
            return tops[a] > tops[b] ? a : b;
        }

        long ratingPart(int team, int part) {
            long det = determinant();
            if (det == 0 || !findTop(team)) {
                return NO;
            }
            return partOf(tops[team], det * below, part);
        }

        long schedulePart(int team, int part) {
            long det = determinant();
            if (det == 0 || played[team] == 0) {
                return NO;
            }
            for (int j = 0; j < n; j++) {
                if (met[team][j] > 0 && !findTop(j)) {
                    return NO;
                }
            }
            tally.start();
            for (int j = 0; j < n; j++) {
                // Whatever stands as the top of one never met, even of an earlier call, comes to 0.
                tally.addProduct(met[team][j], tops[j]);
            }
            return tally.isOver ? NO : partOf(tally.sum, det * below * played[team], part);
        }

        int firstWrongRow(long[] told, int from) {
            for (int i = 0; i < n; i++) {
                tally.start();
                for (int j = 0; j < n; j++) {
                    tally.addProduct(cells[i][j], told[from + 1 + j]);
                }
                boolean isOver = tally.isOver;
                long sum = tally.sum;
                tally.start();
                tally.addProduct(below, sum);
                isOver = isOver || tally.isOver;
                long left = tally.sum;
                tally.start();
                tally.addProduct(rights[i], told[from]);
                if (isOver || tally.isOver) {
                    return OVER;
                }
                if (left != tally.sum) {
                    return i;
                }
            }
            return NEITHER;
        }
    }

    /** TEAMS in an order, and their SCORES. */
    private static final class Standings {
        private final int[] order = new int[MOST_TEAMS];
        private final int[] scores = new int[MOST_TEAMS];

        void byRatings(Equations rows) {
            for (int i = 0; i < rows.n; i++) {
                order[i] = i;
                for (int k = i; k > 0 && rows.tops[order[k]] > rows.tops[order[k - 1]]; k--) {
                    swapWithFormer(k);
                }
            }
        }

        void byScores(Ledger book, Equations rows, int day) {
            byRatings(rows);
            tellScores(book, rows, day);
            for (int i = 0; i < rows.n; i++) {
                for (int k = i; k > 0 && scores[order[k]] > scores[order[k - 1]]; k--) {
                    swapWithFormer(k);
                }
            }
        }

        private void swapWithFormer(int k) {
            int former = order[k - 1];
            order[k - 1] = order[k];
            order[k] = former;
        }

        void tellScores(Ledger book, Equations rows, int day) {
            for (int i = 0; i < rows.n; i++) {
                scores[i] = 0;
            }
            for (int g = 0; g < book.gameCount; g++) {
                if (book.counts(g, day)) {
                    int outcome = book.outcomeOf(g);
                    scores[book.homes[g]] += 1 + outcome;
                    scores[book.aways[g]] += 1 - outcome;
                }
            }
            for (int f = 0; f < book.fixtureCount; f++) {
                int home = book.fixtureHomes[f];
                int away = book.fixtureAways[f];
                int outcome = Long.compare(rows.tops[home], rows.tops[away]);
                scores[home] += 1 + outcome;
                scores[away] += 1 - outcome;
            }
        }
    }

    /** THE TAPE and the place to which it is read; behind a FAULT nothing more is taken of it. */
    private static final class Tape {
        private final byte[] bytes = new byte[TAPE_ROOM];
        private int length = 0;
        private int at = 0;
        private int fault = NONE;

        void rewind() {
            at = 0;
            fault = NONE;
        }

        boolean failed() {
            return fault != NONE;
        }

        void failAt(int place) {
            if (!failed()) {
                fault = place;
            }
        }

        /** The byte ahead; 0, which THE TAPE never holds, behind its last one. */
        private int ahead() {
            return at < length ? bytes[at] : 0;
        }

        private boolean isFigureAhead() {
            return ahead() >= '0' && ahead() <= '9';
        }

        boolean skips(char sign) {
            if (failed() || ahead() != sign) {
                return false;
            }
            at++;
            return true;
        }

        void need(char sign) {
            if (!skips(sign)) {
                failAt(at);
            }
        }

        /** Ends a reading, whether it went well or not: THE TAPE is empty then. */
        boolean endsWell() {
            if (at < length) {
                failAt(at);
            }
            length = 0;
            return !failed();
        }

        int number(int figures) {
            if (failed() || !isFigureAhead()) {
                failAt(at);
                return 0;
            }
            int number = 0;
            for (int k = 0; k < figures && isFigureAhead(); k++) {
                number = number * 10 + ahead() - '0';
                at++;
            }
            return number;
        }

        /** One of the three signs that compare, or a FAULT. */
        int comparer() {
            int sign = ahead();
            if (!skips('<') && !skips('=') && !skips('>')) {
                failAt(at);
            }
            return sign;
        }

        /** A WORD as its number in valueOf, or a FAULT where it begins. */
        int word() {
            if (failed()) {
                return NO_WORD;
            }
            int start = at;
            for (int k = 0; k < TAPE_ROOM && ahead() >= 'a' && ahead() <= 'z'; k++) {
                at++;
            }
            int word = wordFrom(start);
            if (word == NO_WORD) {
                failAt(start);
            }
            return word;
        }

        private int wordFrom(int start) {
            if (isWord(start, "home")) {
                return 0;
            }
            if (isWord(start, "away")) {
                return 1;
            }
            if (isWord(start, "for")) {
                return 2;
            }
            if (isWord(start, "against")) {
                return 3;
            }
            if (isWord(start, "day")) {
                return 4;
            }
            if (isWord(start, "weight")) {
                return 5;
            }
            if (isWord(start, "void")) {
                return 6;
            }
            if (isWord(start, "margin")) {
                return MARGIN_WORD;
            }
            return isWord(start, "won") ? WON_WORD : NO_WORD;
        }

        private boolean isWord(int start, String word) {
            if (at - start != word.length()) {
                return false;
            }
            for (int k = 0; k < word.length(); k++) {
                if (bytes[start + k] != word.charAt(k)) {
                    return false;
                }
            }
            return true;
        }
    }

    /** THE PAPER. */
    private static final class Sheet {
        private final byte[] bytes = new byte[PAPER_ROOM];
        private int length = 0;

        void writeGame(Ledger book, int g) {
            if (length > 0) {
                write(';');
            }
            writeNumber(book.homes[g]);
            write('-');
            writeNumber(book.aways[g]);
            write(':');
            writeNumber((int) book.scored[g]);
            write('-');
            writeNumber((int) book.conceded[g]);
            write('@');
            writeNumber(book.days[g]);
            if (book.weights[g] != 1) {
                write('x');
                writeNumber(book.weights[g]);
            }
        }

        private void writeNumber(int number) {
            for (int unit = 1000; unit > 0; unit /= 10) {
                if (number >= unit || unit == 1) {
                    write('0' + number / unit % 10);
                }
            }
        }

        private void write(int sign) {
            if (length < PAPER_ROOM) {
                bytes[length] = (byte) sign;
                length++;
            }
        }
    }

    /** LISTS; one that holds nothing has a size below 0. */
    private static final class Shelf {
        private final long[][] held = new long[LISTS][MOST_HELD];
        private final int[] sizes = {NONE, NONE, NONE, NONE};

        boolean hasPlace(int list, int i) {
            return i >= 0 && i < sizes[list];
        }

        void hold(int list, int n) {
            sizes[list] = n;
            for (int i = 0; i < n; i++) {
                held[list][i] = 0;
            }
        }
    }
}
