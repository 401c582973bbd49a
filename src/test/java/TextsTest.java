import java.io.IOException;

/** For each sentence of part 3 of the Terms of ../shared/DOC.md a test of its own: texts, LISTS, THE IMAGE. */
public final class TextsTest {
    private static final long NO = Desks.NO;
    private static final long MUCH = Desks.MUCH;
    private static final String FIGURES = "0123456789";
    private static final String[] WORDS = {"home", "away", "for", "against", "day", "weight", "margin", "void", "won"};

    private final Sentences terms;

    private TextsTest(Sentences terms) {
        this.terms = terms;
    }

    private void of(String words) {
        terms.of(words);
    }

    private void due(String call, long got, long want) {
        terms.due(call, got, want);
    }

    private void dueResults(String text, long want) {
        due("results() of " + text, Desks.results(new ScheduleDesk(), text), want);
    }

    private void duePick(String text, long want) {
        due("pick() of " + text, Desks.pick(bits(), text), want);
    }

    /** Eight GAMES, whose numbers' bits are FOR, AGAINST, DAY. */
    private static ScheduleDesk bits() {
        ScheduleDesk x = new ScheduleDesk();
        for (int g = 0; g < 8; g++) {
            x.game(0, 1, g & 1, g >> 1 & 1, g >> 2, 1);
        }
        return x;
    }

    /** Behind what is ahead a text goes on with some bytes, is whole with others; of all others the FAULT is told. */
    private void dueBytes(boolean isResults, String ahead, String goOn, String end, int fault) {
        for (char letter = 1; letter <= 127; letter++) {
            String text = ahead + letter;
            int answer = isResults ? Desks.results(new ScheduleDesk(), text) : Desks.pick(bits(), text);
            boolean isWhole = end.indexOf(letter) >= 0;
            int want = goOn.indexOf(letter) >= 0 ? -100 - text.length() : -100 - fault;
            due("of " + ahead + " and byte " + (int) letter, isWhole ? Math.min(answer, 0) : answer, isWhole ? 0 : want);
        }
    }

    private void tape() {
        of("THE TAPE holds 0 .. 120 bytes.");
        ScheduleDesk x = new ScheduleDesk();
        due("at first", x.told(5), 0);
        for (int k = 1; k <= 120; k++) {
            due("feed", x.feed(1 + k % 127), k);
        }
        due("one more", x.feed(65), -4);
        due("bytes", x.told(5), 120);
        String games = "0-1:1-1@1;".repeat(11) + "0-1:1-1@12";
        due("RESULTS of 120 bytes", Desks.results(new ScheduleDesk(), games), 12);
        due("a CONDITION of 120 bytes", Desks.pick(bits(), "home=1|".repeat(16) + "home=000"), 255);
        due("a FAULT behind all of 120 bytes", Desks.pick(bits(), "home=1|".repeat(16) + "home=0||"), -219);
        due("too early an end behind 120 bytes", Desks.pick(bits(), "home=1|".repeat(16) + "(home=00"), -220);
    }

    private void results() {
        of("RESULTS as a text: GAMES, one or more, parted by ; :");
        String game = "0-1:1-1@1";
        dueResults("", -100);
        dueResults(game, 1);
        dueResults(game + ";" + game, 2);
        dueResults((game + ";").repeat(11) + game, 12);
        dueResults(game + ";", -110);
        dueResults(";" + game, -100);
        dueResults(game + ";;" + game, -110);
        dueResults(game + " ;" + game, -109);
        dueResults(game + game, -110);

        of("HOME - AWAY : FOR - AGAINST @ DAY, perhaps x WEIGHT (1 else).");
        String[] texts = {"3-2:17-4@56", "3-2:17-4@56x1", "3-2:17-4@56x2", "3-2:17-4@56x3"};
        for (int k = 0; k < texts.length; k++) {
            ScheduleDesk x = new ScheduleDesk();
            due("results() of " + texts[k], Desks.results(x, texts[k]), 1);
            long[] wants = {3, 2, 17, 4, 56, Math.max(k, 1), 0};
            for (int what = 0; what < 7; what++) {
                due("of(0, " + what + ") behind " + texts[k], x.of(0, what), wants[what]);
            }
        }
        figures();
    }

    private void figures() {
        of("TEAMS are 1 figure, FOR and AGAINST 1 to 4, DAY 1 or 2, WEIGHT 1.");
        String[] scores = {"0", "9", "10", "99", "100", "999", "1000", "9999", "00", "007", "0000"};
        for (String score : scores) {
            ScheduleDesk x = new ScheduleDesk();
            due("FOR " + score, Desks.results(x, "0-1:" + score + "-5@1"), 1);
            due("FOR " + score, x.of(0, 2), Integer.parseInt(score));
            x = new ScheduleDesk();
            due("AGAINST " + score, Desks.results(x, "0-1:5-" + score + "@1"), 1);
            due("AGAINST " + score, x.of(0, 3), Integer.parseInt(score));
        }
        String[] days = {"0", "9", "10", "99", "00", "09"};
        for (String day : days) {
            ScheduleDesk x = new ScheduleDesk();
            due("DAY " + day, Desks.results(x, "0-1:5-5@" + day), 1);
            due("DAY " + day, x.of(0, 4), Integer.parseInt(day));
        }
        dueResults("00-1:1-1@1", -101);
        dueResults("-1:1-1@1", -100);
        dueResults("0-01:1-1@1", -102);
        dueResults("0-10:1-1@1", -103);
        dueResults("0-:1-1@1", -102);
        dueResults("0-1:-1@1", -104);
        dueResults("0-1:00001-1@1", -108);
        dueResults("0-1:1-@1", -106);
        dueResults("0-1:1-10000@1", -110);
        dueResults("0-1:1-1@", -108);
        dueResults("0-1:1-1@001", -110);
        dueResults("0-1:1-1@1x", -110);
        dueResults("0-1:1-1@1x11", -111);
        dueResults("0-1:1-1@x2", -108);
    }

    private void conditions() {
        of("A CONDITION: E: T or E|T. T: F or T&F.");
        int a = 0xAA;
        int b = 0xCC;
        int c = 0xF0;
        String[] texts = {"A", "A|B", "A&B", "A|B|C", "A&B&C", "A|B&C", "A&B|C", "A&B|B&C", "A|B&C|A&C", "A&B&C|A"};
        int[] wants = {a, a | b, a & b, a | b | c, a & b & c, a | b & c, a & b | c, a & b | b & c, a | b & c | a & c, a};
        for (int k = 0; k < texts.length; k++) {
            duePick(written(texts[k]), wants[k]);
        }
        of("F: !F, (E), or a WORD, < or = or >, perhaps -, a number (1 to 4 figures).");
        int all = 0xFF;
        String[] parts = {"!A", "!!A", "(A)", "((A))", "(!A)", "!(A)", "!(A|B)", "!A|B", "!A&B", "!(A&B)", "A&!B",
            "(A|B)&C", "A&(B|C)", "A|!B&C", "!(A|B)&!(B&C)", "!(!A&!B)"};
        int[] dues = {all - a, a, a, a, all - a, all - a, all - (a | b), all - a | b, b & ~a, all - (a & b), a & ~b,
            (a | b) & c, a & (b | c), a | c & ~b, ~(a | b) & ~(b & c) & all, a | b};
        for (int k = 0; k < parts.length; k++) {
            duePick(written(parts[k]), dues[k]);
        }
        String[] compared = {"day<1", "day=1", "day>1", "day<0", "day>0", "day=0", "day>-1", "day=-0", "day<-1", "day=0001",
            "day<0002", "day<9999", "day>-9999", "day=-1"};
        int[] which = {all - c, c, 0, 0, c, all - c, all, all - c, 0, c, all, all, all, 0};
        for (int k = 0; k < compared.length; k++) {
            duePick(compared[k], which[k]);
        }
        duePick("", -100);
        duePick("()", -101);
        duePick("day=1)", -105);
        duePick("day=1(day=1)", -105);
        duePick("day==1", -104);
        duePick("day<=1", -104);
        duePick("day=--1", -105);
        duePick("day=+1", -104);
        duePick("1=day", -100);
        duePick("day=00001", -108);
        duePick("day=-00001", -109);
        duePick("day=1&|day=1", -106);
        duePick("day=1||day=1", -106);
        duePick("day!=1", -103);
    }

    private static String written(String text) {
        return text.replace("A", "for=1").replace("B", "against>0").replace("C", "day=1");
    }

    private void words() {
        of("WORDS (as many of a .. z as stand there): home, away, for, against, day, weight, margin (of HOME), void (1, 0), "
            + "won (1 by HOME, 2 by AWAY, 0).");
        int[][] wants = {{3, 2, 1}, {1, 0, 2}, {20, 10, 4}, {35, 0, 4}, {98, 7, 0}, {2, 1, 3}, {-15, 10, 0}, {0, 1, 0},
            {2, 1, 0}};
        for (int w = 0; w < WORDS.length; w++) {
            for (int g = 0; g < 3; g++) {
                int want = wants[w][g];
                due(WORDS[w] + " of " + g, Desks.pick(forWords(), WORDS[w] + "=" + want) >> g & 1, 1);
                due("below " + WORDS[w] + " of " + g, Desks.pick(forWords(), WORDS[w] + ">" + (want - 1)) >> g & 1, 1);
                due("above " + WORDS[w] + " of " + g, Desks.pick(forWords(), WORDS[w] + "<" + (want + 1)) >> g & 1, 1);
                due("not " + WORDS[w] + " of " + g, Desks.pick(forWords(), WORDS[w] + ">" + want) >> g & 1, 0);
                due("not " + WORDS[w] + " of " + g, Desks.pick(forWords(), WORDS[w] + "<" + want) >> g & 1, 0);
            }
        }
        ScheduleDesk x = forWords();
        x.game(0, 1, MUCH, MUCH, 0, 1);
        due("a FOR above all numbers", Desks.pick(x, "for>9999"), 8);
        due("an AGAINST above all numbers", Desks.pick(x, "against>9999"), 8);
        due("none is above 9999 else", Desks.pick(x, "for<9999&against<9999"), 7);
        x.cap(0);
        due("MARGINS capped to 0", Desks.pick(x, "margin=0"), 15);
        due("WON by none else", Desks.pick(x, "won>2|won<0"), 0);
        for (String word : WORDS) {
            duePick(word + "z=1", -100);
            duePick("z" + word + "=1", -100);
            duePick(word.substring(1) + "=1", -100);
            duePick(word.substring(0, word.length() - 1) + "=1", -100);
            duePick(word.toUpperCase() + "=1", -100);
            duePick(word.substring(0, word.length() - 1) + "z=1", -100);
            duePick(word.substring(0, 1) + "z" + word.substring(2) + "=1", -100);
            duePick(word + word + "=1", -100);
            duePick(word + " =1", -100 - word.length());
            duePick(word, -100 - word.length());
        }
        duePick("forday=1", -100);
    }

    /** Three GAMES: AWAY WON, HOME WON (and it is VOID), DRAWN. */
    private static ScheduleDesk forWords() {
        ScheduleDesk x = new ScheduleDesk();
        x.game(3, 1, 20, 35, 98, 2);
        x.game(2, 0, 10, 0, 7, 1);
        x.game(1, 2, 4, 4, 0, 3);
        x.voids(1, 1);
        return x;
    }

    private void depth() {
        of("A ( or ! within 4 others of these is none.");
        for (int way = 0; way < 32; way++) {
            StringBuilder opened = new StringBuilder();
            StringBuilder closed = new StringBuilder();
            boolean isNot = false;
            for (int k = 0; k < 4; k++) {
                boolean isOne = (way >> k & 1) == 1;
                opened.append(isOne ? '!' : '(');
                closed.append(isOne ? "" : ")");
                isNot ^= isOne;
            }
            String whole = opened + "day=1" + closed;
            duePick(whole, isNot ? 0x0F : 0xF0);
            duePick(opened.substring(0, 3) + "day=1" + closed.substring(opened.charAt(3) == '(' ? 1 : 0),
                isNot != (opened.charAt(3) == '!') ? 0x0F : 0xF0);
            char fifth = way >= 16 ? '!' : '(';
            duePick(opened.toString() + fifth + "day=1" + (fifth == '(' ? ")" : "") + closed, -104);
            duePick(whole + "|" + opened.substring(0, 1) + "day=0" + (opened.charAt(0) == '(' ? ")" : ""),
                (isNot ? 0x0F : 0xF0) | (opened.charAt(0) == '!' ? 0xF0 : 0x0F));
            duePick(whole + "&" + opened + fifth + "day=0", -101 - whole.length() - 4);
        }
        due("voidAll within 4", Desks.voidAll(bits(), "!!!!day=1", 1), 4);
        due("voidAll within 4 others", Desks.voidAll(bits(), "!!!!!day=1", 1), -104);
        due("voidAll within 3 others", Desks.voidAll(bits(), "((((day=1))))", 1), 4);
        duePick("(((!day=1&(day=0))))", 0x0F);
        duePick("(((!day=1&!!day=0)))", -111);
        duePick("(((!(day=1))))", -104);
    }

    private void faultsOfNumbersAndWords() {
        of("FAULT of a text: of a number that may not be (AWAY like HOME, too),");
        for (int n = 2; n <= 6; n++) {
            for (int team = 0; team < 10; team++) {
                boolean is = team < n;
                due("HOME " + team, Desks.results(Desks.of(n), team + "-" + (team == 0 ? 1 : 0) + ":1-1@1"), is ? 1 : -100);
                due("AWAY " + team, Desks.results(Desks.of(n), (team == 0 ? 1 : 0) + "-" + team + ":1-1@1"), is ? 1 : -102);
            }
            for (int team = 0; team < n; team++) {
                due("AWAY like HOME", Desks.results(Desks.of(n), team + "-" + team + ":1-1@1"), -102);
            }
        }
        for (int weight = 0; weight < 10; weight++) {
            dueResults("0-1:1-1@1x" + weight, weight >= 1 && weight <= 3 ? 1 : -110);
            dueResults("0-1:1-1@1;0-1:1-1@11x" + weight, weight >= 1 && weight <= 3 ? 2 : -121);
        }
        of("of a WORD that is none (an empty one, too), where it begins;");
        duePick("days=1", -100);
        duePick("=1", -100);
        duePick("<1", -100);
        duePick("9", -100);
        duePick("!", -101);
        duePick("(", -101);
        duePick("day=1&", -106);
        duePick("day=1&=1", -106);
        duePick("day=1&dai=1", -106);
        duePick("!(days=1)", -102);
        duePick("((((!day=1))))", -104);
    }

    private void faultsOfRoom() {
        of("of a GAME for which there is no room, where it begins");
        String game = "0-1:1-1@1";
        for (int room = 0; room < 4; room++) {
            for (int more = 0; more <= 4; more++) {
                ScheduleDesk x = new ScheduleDesk();
                for (int g = 0; g < 30 - room; g++) {
                    x.game(0, 1, 0, 0, 0, 1);
                }
                String text = (game + ";").repeat(more) + game;
                due("room for " + room + ": " + text, Desks.results(x, text), more < room ? more + 1 : -100 - 10 * room);
                due("GAMES then", x.told(1), 30 - room + (more < room ? more + 1 : 0));
            }
        }
        String whole = "0-1:1-1@11x2";
        for (int length = 0; length <= whole.length(); length++) {
            due("the text ends early", Desks.results(Desks.thirty(), whole.substring(0, length)), -100);
            due("another byte comes", Desks.results(Desks.thirty(), whole.substring(0, length) + "z"), -100);
        }
        String[] faulty = {"9", "0-0", "0-9:1-1@1", "0-1:1-1@1x4", "0-1:12345-1@1", ";", "-", "z"};
        for (String text : faulty) {
            due("what is wrong within it", Desks.results(Desks.thirty(), text), -100);
            ScheduleDesk x = Desks.thirty();
            x.drop();
            due("what is wrong within it", Desks.results(x, game + ";" + text), -110);
            x.drop();
            due("there was room", Desks.results(x, game + ";" + game), 2);
            x.voids(29, 1);
            due("a VOID one takes room, too", Desks.results(x, game), -100);
        }
    }

    private void order() {
        of("(a text is read from left to right;");
        dueResults("9-9:12345-1@1x4", -100);
        dueResults("0-0:12345-1@1x4", -102);
        dueResults("0-1:12345-1@1x4", -108);
        dueResults("0-1:1-1@1x4;9", -110);
        dueResults("0-1:1-1@1x3;9", -112);
        duePick("dax=1&=1", -100);
        duePick("day=x&dax=1", -104);
        duePick("!!!!!day=x", -104);
        ScheduleDesk x = Desks.thirty();
        x.drop();
        due("ahead of the GAME without room", Desks.results(x, "0-1:1-1@1x9;0-1:1-1@1"), -110);
        due("ahead of the GAME without room", Desks.results(x, "0-1:1-1@1z;0-1:1-1@1"), -109);
        due("the GAME without room", Desks.results(x, "0-1:1-1@1;9-1:1-1@1x9"), -110);

        of("of figures as many as told at most are taken;");
        dueResults("01-1:1-1@1", -101);
        dueResults("0-11:1-1@1", -103);
        dueResults("0-1:99999-1@1", -108);
        dueResults("0-1:1-99999@1", -110);
        dueResults("0-1:1-1@999", -110);
        dueResults("0-1:1-1@9x33", -111);
        duePick("day=99999", -108);
        duePick("day=-99999", -109);
        dueResults("01", -101);
        dueResults("0-1:12345", -108);

        of("numbers, WORDS, room are looked at as soon as they are taken, ahead of the byte behind);");
        dueResults("4z", -100);
        dueResults("4", -100);
        dueResults("0-0z", -102);
        dueResults("0-0", -102);
        dueResults("0-4", -102);
        dueResults("0-1:1-1@1x0z", -110);
        dueResults("0-1:1-1@1x44", -110);
        dueResults("44", -100);
        dueResults("0-00", -102);
        duePick("dayz", -100);
        duePick("da!", -100);
        duePick("da", -100);
        duePick("day=1&z)", -106);
        due("room", Desks.results(Desks.thirty(), "0z"), -100);
    }

    private void faultsOfBytes() {
        of("otherwise the place (from 0) of the first byte with which no such text goes on;");
        dueBytes(true, "", "0123", "", 0);
        dueBytes(true, "0", "-", "", 1);
        dueBytes(true, "0-", "123", "", 2);
        dueBytes(true, "0-1", ":", "", 3);
        dueBytes(true, "0-1:", FIGURES, "", 4);
        dueBytes(true, "0-1:1", FIGURES + "-", "", 5);
        dueBytes(true, "0-1:12", FIGURES + "-", "", 6);
        dueBytes(true, "0-1:123", FIGURES + "-", "", 7);
        dueBytes(true, "0-1:1234", "-", "", 8);
        dueBytes(true, "0-1:1-", FIGURES, "", 6);
        dueBytes(true, "0-1:1-1", FIGURES + "@", "", 7);
        dueBytes(true, "0-1:1-1234", "@", "", 10);
        dueBytes(true, "0-1:1-1@", "", FIGURES, 8);
        dueBytes(true, "0-1:1-1@1", "x;", FIGURES, 9);
        dueBytes(true, "0-1:1-1@12", "x;", "", 10);
        dueBytes(true, "0-1:1-1@1x", "", "123", 10);
        dueBytes(true, "0-1:1-1@1x2", ";", "", 11);
        dueBytes(true, "0-1:1-1@1;", "0123", "", 10);
        dueBytes(true, "0-1:1-1@1;1-", "023", "", 12);
        dueBytes(false, "", "!(", "", 0);
        dueBytes(false, "!", "!(", "", 1);
        dueBytes(false, "!!!(", "", "", 4);
        dueBytes(false, "day=1&", "!(", "", 6);
        dueBytes(false, "day=1|", "!(", "", 6);
        // Letters make another WORD, which is none: the same FAULT as where it begins.
        dueBytes(false, "!!day ", "", "", 5);
        dueBytes(false, "day=", "-", FIGURES, 4);
        dueBytes(false, "day<", "-", FIGURES, 4);
        dueBytes(false, "day>", "-", FIGURES, 4);
        dueBytes(false, "day=-", "", FIGURES, 5);
        dueBytes(false, "day=1", "&|", FIGURES, 5);
        dueBytes(false, "day=1234", "&|", "", 8);
        dueBytes(false, "(day=1", FIGURES + "&|", ")", 6);
        dueBytes(false, "(day=1)", "&|", "", 7);
        dueBytes(false, "!day=1&(day=1", FIGURES + "&|", ")", 13);
        for (char letter = 1; letter <= 127; letter++) {
            boolean isOfWord = letter >= 'a' && letter <= 'z';
            boolean goesOn = "<=>".indexOf(letter) >= 0;
            duePick("day" + letter, isOfWord ? -100 : goesOn ? -104 : -103);
        }
        of("the length, if it ends too early.");
        String game = "0-1:1-1@1x2";
        for (int length = 0; length < game.length(); length++) {
            dueResults(game.substring(0, length), length == 9 ? 1 : -100 - length);
            dueResults(game + ";" + game.substring(0, length), length == 9 ? 2 : -112 - length);
        }
        String condition = "((day>-1)&(!";
        int[] lengths = {1, 2, 5, 6, 7, 8, 9, 10, 11, 12};
        for (int length : lengths) {
            duePick(condition.substring(0, length), -100 - length);
        }
        duePick("(day=1", -106);
        duePick("((day=1)", -108);
        duePick("day", -103);
        duePick("day=1|day", -109);
    }

    private void faultDoesNothing() {
        of("A text with a FAULT does nothing.");
        String[] results = {"9", "0-1:1-1@1;", "0-1:1-1@1;0-0:1-1@1", "0-1:1-1@1x2z", "0-2:7-7@7;2-1:8-8@8x4"};
        String[] conditions = {"day", "home<9&", "home<9|homes=1", "(home<9", "home<9z"};
        Desks.Call clear = x -> x.clear();
        for (String text : results) {
            dueAlike(text, clear, x -> x.results());
        }
        for (String text : conditions) {
            dueAlike(text, clear, x -> x.pick());
            dueAlike(text, clear, x -> x.voidAll(0));
            dueAlike(text, clear, x -> x.voidAll(1));
        }
    }

    /** Behind a text two calls are to leave the same; the second is one that tells a FAULT. */
    private void dueAlike(String text, Desks.Call one, Desks.Call other) {
        ScheduleDesk x = Desks.busy();
        ScheduleDesk y = Desks.busy();
        x.clear();
        y.clear();
        one.on(Desks.feed(x, text));
        due("a FAULT of " + text, Math.min(other.on(Desks.feed(y, text)), -99) < -99 ? 1 : 0, 1);
        terms.same("THE PAPER behind " + text, Desks.paper(y), Desks.paper(x));
        terms.same("all else behind " + text, Desks.told(y), Desks.told(x));
    }

    private void papers() {
        of("SPELLED: GAMES that aren't VOID and whose FOR, AGAINST are 9999 at most, by numbers, as RESULTS, x told if "
            + "WEIGHT isn't 1, numbers as short as can be.");
        ScheduleDesk x = new ScheduleDesk();
        x.game(3, 0, 9999, 0, 0, 1);
        x.game(0, 3, 10000, 0, 0, 1);
        x.game(0, 3, 0, 10000, 0, 1);
        x.game(1, 2, 0, 9999, 99, 2);
        x.game(1, 2, 9, 10, 10, 3);
        x.game(2, 1, 99, 100, 9, 1);
        x.game(2, 1, 999, 1000, 1, 1);
        x.game(2, 1, MUCH, MUCH, 1, 1);
        dueSpelled(x, "3-0:9999-0@0;1-2:0-9999@99x2;1-2:9-10@10x3;2-1:99-100@9;2-1:999-1000@1");
        x.voids(0, 1);
        x.voids(4, 1);
        dueSpelled(x, "1-2:0-9999@99x2;2-1:99-100@9;2-1:999-1000@1");
        ScheduleDesk none = Desks.of(2);
        none.game(0, 1, 10000, 0, 0, 1);
        dueSpelled(none, "");
        ScheduleDesk most = Desks.of(6);
        for (int g = 0; g < 30; g++) {
            most.game(5, 4, 9999, 9998, 99, 3);
        }
        due("the longest", most.spell(), 569);
        due("its last byte", most.paper(568), '3');
        due("none behind it", most.paper(569), -1);

        of("THE PAPER holds the latest one (nothing at first).");
        ScheduleDesk y = Desks.pair();
        due("at first", y.told(6), 0);
        due("at first", y.paper(0), -1);
        dueSpelled(y, "0-1:3-1@5x2");
        y.game(1, 0, 0, 0, 0, 1);
        terms.same("the latest one", Desks.paper(y), "0-1:3-1@5x2");
        dueSpelled(y, "0-1:3-1@5x2;1-0:0-0@0");
        y.drop();
        y.drop();
        dueSpelled(y, "");
        due("a shorter one", y.paper(0), -1);
    }

    private void dueSpelled(ScheduleDesk x, String want) {
        due("spell() for " + want, x.spell(), want.length());
        terms.same("THE PAPER", Desks.paper(x), want);
    }

    private void lists() {
        of("LISTS 0 .. 3 hold nothing (at first) or a row of 0 .. 20 longs.");
        for (int list = 0; list < 4; list++) {
            ScheduleDesk x = new ScheduleDesk();
            due("nothing at first", x.set(list, 0, 1), -11);
            due("nothing at first", x.get(list, 0), NO);
            for (int n = 0; n <= 20; n++) {
                due("a row of " + n, x.list(list, n), 1);
                due("its last", n == 0 ? 0 : x.get(list, n - 1), 0);
                due("behind it", x.get(list, n), NO);
            }
            x.set(list, 19, Long.MAX_VALUE);
            due("the greatest long", x.get(list, 19), Long.MAX_VALUE);
            x.set(list, 0, NO);
            due("the least long", x.set(list, 0, 5), 1);
            due("another LIST", x.get((list + 1) % 4, 0), NO);
        }
        due("no LIST 4", new ScheduleDesk().list(4, 1), -1);
        due("no LIST -1", new ScheduleDesk().list(-1, 1), -1);

        of("NOTHING (-11): none is held; BEYOND (-13): no such place; BELOW (-14): a size below 0.");
        ScheduleDesk x = new ScheduleDesk();
        x.list(1, 3);
        x.list(2, 0);
        due("none is held", x.set(0, 0, 1), -11);
        due("none is held", x.judge(0, 0, 0, 0), -11);
        due("no such place", x.set(1, 3, 1), -13);
        due("no such place", x.set(1, -1, 1), -13);
        due("no such place", x.set(2, 0, 1), -13);
        due("a place", x.set(1, 2, 1), 1);
        due("a size below 0", x.list(1, -1), -14);
        due("a size below 0", x.list(1, Integer.MIN_VALUE), -14);
        due("a size of 0", x.list(1, 0), 1);
        due("a size above 20", x.list(1, 21), -2);
        due("a size above 20", x.list(1, Integer.MAX_VALUE), -2);
    }

    private static int judged(ScheduleDesk x, int model, int day, int from, long... told) {
        x.list(0, from + told.length);
        for (int k = 0; k < told.length; k++) {
            x.set(0, from + k, told[k]);
        }
        return x.judge(model, day, 0, from);
    }

    private void judging() {
        of("TOLD RATINGS: of a LIST from a place on a scale, then what is above the line for each TEAM.");
        for (int from = 0; from <= 17; from++) {
            due("from " + from, judged(Desks.pair(), 0, 5, from, 3, 2, 1), -5);
            due("another scale", judged(Desks.pair(), 0, 5, from, 6, 4, 2), -5);
            due("a scale of another sign", judged(Desks.pair(), 0, 5, from, -3, -2, -1), -5);
            due("the scale of another", judged(Desks.pair(), 0, 5, from, 6, 2, 1), 0);
            due("in another order", judged(Desks.pair(), 0, 5, from, 3, 1, 2), 0);
        }
        due("what is behind doesn't matter", judged(Desks.pair(), 0, 5, 0, 3, 2, 1, 77), -5);
        due("all 0", judged(Desks.pair(), 0, 5, 0, 0, 0, 0), -5);

        of("JUDGED: for rows 0, 1, ..: MATRIX times what is told, added up by columns, times BELOW, is to be RIGHT times "
            + "the scale; the first row for which it isn't; -5: none;");
        due("MARGINS", judged(Desks.three(), 1, 6, 0, 21, 34, -104, 70), -5);
        due("MARGINS, the last row", judged(Desks.three(), 1, 6, 0, 21, 35, -103, 71), 2);
        due("MARGINS, row 1", judged(Desks.three(), 1, 6, 0, 21, 34, -101, 68), 1);
        due("MARGINS, row 0", judged(Desks.three(), 1, 6, 0, 21, 35, -104, 70), 0);
        due("PARTED", judged(Desks.pair(), 1, 4, 0, 9, 5, -5), -5);
        due("WINS", judged(Desks.pair(), 0, 4, 0, 2, 1, 1), -5);
        due("WINS, row 1", judged(Desks.pair(), 0, 4, 0, 2, 1, 2), 1);
        due("SMOOTH", judged(Desks.pair(), 2, 5, 0, 3, 2, -2), -5);
        due("SMOOTH, row 1", judged(Desks.pair(), 2, 5, 0, 3, 1, -4), 1);
        judgedOver();
    }

    private void judgedOver() {
        of("OVER, where a product or sum is beyond, ahead of such a row (of a row: its products and sums by columns, then "
            + "times BELOW, then RIGHT times the scale).");
        long most = Long.MAX_VALUE;
        long half = 1L << 62;
        // As of 4 no GAMES count: the MATRIX of WINS and SMOOTH has 2 at 0, 0 and at 1, 1; that of MARGINS its last row.
        long[][] products = {{half - 1, 0}, {half, -6}, {-half, 0}, {-half - 1, -6}};
        for (long[] p : products) {
            due("a product of row 0: " + p[0], judged(Desks.pair(), 2, 4, 0, 0, p[0], 0), p[1]);
            due("a product of row 1: " + p[0], judged(Desks.pair(), 2, 4, 0, 0, 0, p[0]), p[1] == 0 ? 1 : -6);
            due("times BELOW: " + p[0], judged(Desks.pair(), 0, 4, 0, 0, p[0] >> 1, 0), p[1]);
            due("RIGHT times the scale: " + p[0], judged(Desks.pair(), 0, 4, 0, p[0], 0, 0), p[1]);
        }
        due("the least long on both sides", judged(Desks.pair(), 0, 4, 0, -half, -half / 2, -half / 2), -5);
        due("MARGINS have no BELOW", judged(Desks.pair(), 1, 4, 0, 0, most, -most), -5);
        long[][] sums = {{most, 0, 1}, {most, 1, -6}, {NO, 0, 1}, {NO, -1, -6}, {NO + 1, most, -5}, {half, half, -6},
            {-half, -half, 1}};
        for (long[] s : sums) {
            due("the sum of " + s[0] + " and " + s[1], judged(Desks.pair(), 1, 4, 0, 0, s[0], s[1]), s[2]);
        }
        // MATRIX 1, -1 at row 0.
        ScheduleDesk one = Desks.of(2);
        one.game(0, 1, 0, 0, 0, 1);
        due("the least long with the other sign", judged(one, 1, 0, 0, 0, 0, NO), -6);
        due("the next one with the other sign", judged(one, 1, 0, 0, 0, 0, NO + 1), 0);
        due("the least long", judged(one, 1, 0, 0, 0, NO, 0), 0);
        due("all sums are within", judged(one, 1, 0, 0, 0, most, most), -6);
        due("a sum so far", judged(Desks.of(3), 1, 0, 0, 0, most, 1, -2), -6);
        due("the same, in another order", judged(Desks.of(3), 1, 0, 0, 0, most, -2, 1), 2);
        due("a row that is wrong ahead of one beyond", judged(Desks.pair(), 2, 4, 0, 0, 1, half), 0);
        due("a row beyond ahead of one that is wrong", judged(Desks.pair(), 2, 4, 0, 0, half, 1), -6);
        due("the scale alone is beyond in row 1", judged(Desks.pair(), 1, 4, 0, half, 0, 0), -5);
        ScheduleDesk x = Desks.pair();
        x.game(1, 0, 5, 0, 4, 2);
        // WINS as of 4: MATRIX 4, -2; RIGHT 0, 4: the scale is beyond in row 1 alone.
        due("row 0 is right", judged(x, 0, 4, 0, half, 0, 0), -6);
        due("row 0 is wrong", judged(x, 0, 4, 0, half, 1, 0), 0);
    }

    private void images() {
        of("THE IMAGE: n, GAMES, CAP, THE GUESS, FIXTURES (THE TAPE, THE PAPER, LISTS stay by undo(), by teams()).");
        String image = Desks.book(Desks.imaged());
        ScheduleDesk x = Desks.busy();
        due("another book", Desks.book(x).equals(image) ? 1 : 0, 0);
        x.undo();
        terms.same("n, GAMES ..", Desks.book(x), image);
        dueStays(x);
        x = Desks.busy();
        x.teams(2);
        dueStays(x);
        x.undo();
        terms.same("n, GAMES ..", Desks.book(x), image);
        dueStays(x);
        due("THE TAPE's text, day>10", x.pick(), 2);
    }

    private void dueStays(ScheduleDesk x) {
        due("bytes of THE TAPE", x.told(5), 6);
        terms.same("THE PAPER", Desks.paper(x), Desks.paper(Desks.busy()));
        due("LIST 0", x.get(0, 1), -9);
        due("LIST 0", x.get(0, 2), NO);
        due("LIST 1", x.set(1, 0, 1), -11);
        due("LIST 3", x.set(3, 0, 1), -13);
    }

    public static void main(String[] args) throws IOException {
        Sentences terms = new Sentences();
        TextsTest test = new TextsTest(terms);
        terms.part("Terms", "==== 3 ", "Answers: ");
        test.tape();
        test.results();
        test.conditions();
        test.words();
        test.depth();
        test.faultsOfNumbersAndWords();
        test.faultsOfRoom();
        test.order();
        test.faultsOfBytes();
        test.faultDoesNothing();
        test.papers();
        test.lists();
        test.judging();
        test.images();
        terms.end();
    }
}
