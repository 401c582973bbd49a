import java.math.BigInteger;
import java.util.ArrayList;
import java.util.Arrays;
import java.util.HashSet;
import java.util.List;
import java.util.Random;
import java.util.Set;
import java.util.regex.Matcher;
import java.util.regex.Pattern;

/**
 * Runs of random calls on the desk and on another one, written from ../shared/DOC.md in other ways:
 * big integers, determinants by permutations, texts by patterns. The seed is fixed.
 */
public final class OracleTest {
    private static final long NO = Long.MIN_VALUE;
    private static final long MUCH = 1000000000000000L;
    private static final int RUNS = 3000;

    /** What an object answers behind these is free. */
    private static final int CALLS = 512;

    private static int wrong = 0;

    /** The other desk. */
    private static final class Other {
        private static final Pattern GAME = Pattern.compile("(\\d)-(\\d):(\\d{1,4})-(\\d{1,4})@(\\d{1,2})(?:x(\\d))?");
        private static final Pattern GAMES = Pattern.compile(GAME.pattern() + "(?:;" + GAME.pattern() + ")*");
        private static final List<String> WORDS =
            List.of("home", "away", "for", "against", "day", "weight", "void", "margin", "won");

        int n = 4;
        List<long[]> games = new ArrayList<>();
        long cap = MUCH;
        long[] guess = null;
        List<int[]> fixtures = new ArrayList<>();
        String tape = "";
        String paper = "";
        long[][] lists = new long[4][];
        Other kept = null;

        private void take(Other from) {
            n = from.n;
            cap = from.cap;
            guess = from.guess;
            fixtures = new ArrayList<>(from.fixtures);
            games = new ArrayList<>();
            for (long[] g : from.games) {
                games.add(g.clone());
            }
        }

        private static boolean in(long v, long low, long high) {
            return low <= v && v <= high;
        }

        private boolean two(int a, int b) {
            return in(a, 0, n - 1) && in(b, 0, n - 1) && a != b;
        }

        private static boolean asked(int model, int day) {
            return in(model, 0, 2) && in(day, 0, 99);
        }

        private long margin(long[] g) {
            long m = g[2] - g[3];
            return Math.abs(m) <= cap ? m : Long.signum(m) * cap;
        }

        private List<long[]> counting(int day) {
            List<long[]> all = new ArrayList<>();
            for (long[] g : games) {
                if (g[6] == 0 && g[4] <= day) {
                    all.add(g);
                }
            }
            return all;
        }

        int teams(int v) {
            if (!in(v, 2, 6)) {
                return -2;
            }
            int before = n;
            take(new Other());
            n = v;
            return before;
        }

        int game(int home, int away, long f, long a, int day, int weight) {
            if (!two(home, away)) {
                return -1;
            }
            if (!in(f, 0, MUCH) || !in(a, 0, MUCH) || !in(day, 0, 99) || !in(weight, 1, 3)) {
                return -2;
            }
            if (games.size() == 30) {
                return -4;
            }
            games.add(new long[] {home, away, f, a, day, weight, 0});
            return games.size() - 1;
        }

        long of(int game, int what) {
            if (!in(game, 0, games.size() - 1) || !in(what, 0, 7)) {
                return NO;
            }
            return what == 7 ? margin(games.get(game)) : games.get(game)[what];
        }

        int voids(int game, int is) {
            if (!in(game, 0, games.size() - 1) || !in(is, 0, 1)) {
                return -1;
            }
            int before = (int) games.get(game)[6];
            games.get(game)[6] = is;
            return before;
        }

        long cap(long c) {
            if (!in(c, 0, MUCH)) {
                return -2;
            }
            long before = cap;
            cap = c;
            return before;
        }

        int drop() {
            if (games.isEmpty()) {
                return -3;
            }
            games.remove(games.size() - 1);
            return games.size();
        }

        private BigInteger[][] matrixOf(List<long[]> counted, int model) {
            BigInteger[][] m = new BigInteger[n][n];
            for (int i = 0; i < n; i++) {
                for (int j = 0; j < n; j++) {
                    long sum = i == j && model != 1 ? 2 : 0;
                    for (long[] g : counted) {
                        if (i == j && (g[0] == i || g[1] == i)) {
                            sum += g[5];
                        }
                        if (i != j && (g[0] == i && g[1] == j || g[0] == j && g[1] == i)) {
                            sum -= g[5];
                        }
                    }
                    m[i][j] = BigInteger.valueOf(model == 1 && i == n - 1 ? 1 : sum);
                }
            }
            return m;
        }

        private BigInteger[] rightOf(List<long[]> counted, int model) {
            BigInteger[] right = new BigInteger[n];
            for (int i = 0; i < n; i++) {
                long sum = model == 0 ? 2 : 0;
                for (long[] g : counted) {
                    long gain = model == 0 ? Long.signum(g[2] - g[3]) : margin(g);
                    if (g[0] == i) {
                        sum += gain * g[5];
                    } else if (g[1] == i) {
                        sum -= gain * g[5];
                    }
                }
                right[i] = BigInteger.valueOf(model == 1 && i == n - 1 ? 0 : sum);
            }
            return right;
        }

        /** By the first row, then by the rows below: exact, and without a thought of speed. */
        private static BigInteger determinant(BigInteger[][] m) {
            if (m.length == 0) {
                return BigInteger.ONE;
            }
            BigInteger sum = BigInteger.ZERO;
            for (int c = 0; c < m.length; c++) {
                if (m[0][c].signum() != 0) {
                    BigInteger term = m[0][c].multiply(determinant(without(m, 0, c)));
                    sum = c % 2 == 0 ? sum.add(term) : sum.subtract(term);
                }
            }
            return sum;
        }

        private static BigInteger[][] without(BigInteger[][] m, int row, int column) {
            BigInteger[][] left = new BigInteger[m.length - 1][m.length - 1];
            for (int i = 0; i < left.length; i++) {
                for (int j = 0; j < left.length; j++) {
                    left[i][j] = m[i < row ? i : i + 1][j < column ? j : j + 1];
                }
            }
            return left;
        }

        private static BigInteger cofactorOf(BigInteger[][] m, int i, int j) {
            BigInteger d = determinant(without(m, j, i));
            return (i + j) % 2 == 0 ? d : d.negate();
        }

        private static boolean fits(BigInteger v) {
            return v.bitLength() < 64;
        }

        /** The sum of products, or null: OVER. */
        private static BigInteger summed(BigInteger[] a, BigInteger[] b) {
            BigInteger sum = BigInteger.ZERO;
            for (int k = 0; k < a.length; k++) {
                BigInteger product = a[k].multiply(b[k]);
                sum = sum.add(product);
                if (!fits(product) || !fits(sum)) {
                    return null;
                }
            }
            return sum;
        }

        /** TOPS; null where one is OVER. All is null, if PARTED. */
        private BigInteger[] topsOf(List<long[]> counted, int model) {
            BigInteger[][] m = matrixOf(counted, model);
            if (determinant(m).signum() == 0) {
                return null;
            }
            BigInteger[] tops = new BigInteger[n];
            for (int i = 0; i < n; i++) {
                BigInteger[] row = new BigInteger[n];
                for (int j = 0; j < n; j++) {
                    row[j] = cofactorOf(m, i, j);
                }
                tops[i] = summed(row, rightOf(counted, model));
            }
            return tops;
        }

        private static int flawOf(BigInteger[] tops) {
            return tops == null ? -3 : Arrays.asList(tops).contains(null) ? -6 : 0;
        }

        private static long part(BigInteger above, BigInteger below, int part) {
            BigInteger common = above.gcd(below);
            return (part == 0 ? above : below).divide(common).longValueExact();
        }

        private static BigInteger below(int model) {
            return BigInteger.valueOf(model == 0 ? 2 : 1);
        }

        private long ratingOf(List<long[]> counted, int model, int team, int part) {
            BigInteger[] tops = topsOf(counted, model);
            if (tops == null || tops[team] == null) {
                return NO;
            }
            return part(tops[team], determinant(matrixOf(counted, model)).multiply(below(model)), part);
        }

        long matrix(int model, int day, int i, int j) {
            return !asked(model, day) || !in(i, 0, n - 1) || !in(j, 0, n - 1) ? NO
                : matrixOf(counting(day), model)[i][j].longValueExact();
        }

        long right(int model, int day, int i) {
            return !asked(model, day) || !in(i, 0, n - 1) ? NO : rightOf(counting(day), model)[i].longValueExact();
        }

        long det(int model, int day) {
            return !asked(model, day) ? NO : determinant(matrixOf(counting(day), model)).longValueExact();
        }

        long cofactor(int model, int day, int i, int j) {
            return !asked(model, day) || !in(i, 0, n - 1) || !in(j, 0, n - 1) ? NO
                : cofactorOf(matrixOf(counting(day), model), i, j).longValueExact();
        }

        long rating(int model, int day, int team, int part) {
            return !asked(model, day) || !in(team, 0, n - 1) || !in(part, 0, 1) ? NO
                : ratingOf(counting(day), model, team, part);
        }

        private List<Integer> ranksOf(BigInteger[] tops) {
            List<Integer> order = new ArrayList<>();
            for (int i = 0; i < n; i++) {
                order.add(i);
            }
            order.sort((a, b) -> tops[b].compareTo(tops[a]));
            return order;
        }

        int rank(int model, int day, int k) {
            if (!asked(model, day) || !in(k, 0, n - 1)) {
                return -1;
            }
            BigInteger[] tops = topsOf(counting(day), model);
            return flawOf(tops) != 0 ? flawOf(tops) : ranksOf(tops).get(k);
        }

        long schedule(int model, int day, int team, int part) {
            if (!asked(model, day) || !in(team, 0, n - 1) || !in(part, 0, 1)) {
                return NO;
            }
            BigInteger[] tops = topsOf(counting(day), model);
            BigInteger[] met = matrixOf(counting(day), 0)[team];
            BigInteger all = met[team].subtract(BigInteger.TWO);
            if (tops == null || all.signum() == 0) {
                return NO;
            }
            BigInteger[] times = new BigInteger[n];
            BigInteger[] of = new BigInteger[n];
            for (int j = 0; j < n; j++) {
                boolean isMet = j != team && met[j].signum() != 0;
                if (isMet && tops[j] == null) {
                    return NO;
                }
                times[j] = isMet ? met[j].negate() : BigInteger.ZERO;
                of[j] = isMet ? tops[j] : BigInteger.ZERO;
            }
            BigInteger sum = summed(times, of);
            return sum == null ? NO
                : part(sum, determinant(matrixOf(counting(day), model)).multiply(below(model)).multiply(all), part);
        }

        private static int predictedOf(BigInteger[] tops, int a, int b) {
            int compared = tops[a].compareTo(tops[b]);
            return compared == 0 ? -5 : compared > 0 ? a : b;
        }

        int predict(int model, int day, int a, int b) {
            if (!asked(model, day) || !two(a, b)) {
                return -1;
            }
            BigInteger[] tops = topsOf(counting(day), model);
            if (tops == null) {
                return -3;
            }
            return tops[a] == null || tops[b] == null ? -6 : predictedOf(tops, a, b);
        }

        int upsets(int model, int day) {
            if (!asked(model, day)) {
                return -1;
            }
            BigInteger[] tops = topsOf(counting(day), model);
            if (flawOf(tops) != 0) {
                return flawOf(tops);
            }
            int count = 0;
            for (long[] g : counting(day)) {
                int of = tops[(int) g[0]].compareTo(tops[(int) g[1]]);
                count += of * Long.signum(g[2] - g[3]) < 0 ? 1 : 0;
            }
            return count;
        }

        int guess(int home, int away, long f, long a) {
            if (!two(home, away)) {
                return -1;
            }
            if (!in(f, 0, MUCH) || !in(a, 0, MUCH)) {
                return -2;
            }
            guess = new long[] {home, away, f, a, 0, 1, 0};
            return 1;
        }

        long would(int model, int day, int team, int part) {
            if (!asked(model, day) || !in(team, 0, n - 1) || !in(part, 0, 1) || guess == null) {
                return NO;
            }
            List<long[]> counted = counting(day);
            counted.add(guess);
            return ratingOf(counted, model, team, part);
        }

        long without(int model, int day, int game, int team, int part) {
            if (!asked(model, day) || !in(game, 0, games.size() - 1) || !in(team, 0, n - 1) || !in(part, 0, 1)) {
                return NO;
            }
            List<long[]> counted = counting(day);
            counted.remove(games.get(game));
            return ratingOf(counted, model, team, part);
        }

        int upturns(int model, int day, int game) {
            if (!asked(model, day) || !in(game, 0, games.size() - 1)) {
                return -1;
            }
            List<long[]> counted = counting(day);
            BigInteger[] now = topsOf(counted, model);
            counted.remove(games.get(game));
            BigInteger[] then = topsOf(counted, model);
            if (now == null || then == null) {
                return -3;
            }
            if (flawOf(now) != 0 || flawOf(then) != 0) {
                return -6;
            }
            return ranksOf(now).get(0).equals(ranksOf(then).get(0)) ? 0 : 1;
        }

        int duel(int i, int what) {
            List<long[]> duels = new ArrayList<>();
            for (long[] g : games) {
                long low = Math.min(g[0], g[1]);
                long high = Math.max(g[0], g[1]);
                long[] found = null;
                for (long[] d : duels) {
                    found = d[0] == low && d[1] == high ? d : found;
                }
                if (found == null) {
                    found = new long[] {low, high, 0, 0};
                    duels.add(found);
                }
                found[2]++;
                found[3] += g[6];
            }
            if (i == -1) {
                return duels.size();
            }
            return in(i, 0, duels.size() - 1) && in(what, 0, 3) ? (int) duels.get(i)[what] : -1;
        }

        private int lead(int day, int a, int b) {
            int lead = 0;
            for (long[] g : counting(day)) {
                int gain = Long.signum(g[2] - g[3]) * (int) g[5];
                lead += g[0] == a && g[1] == b ? gain : g[0] == b && g[1] == a ? -gain : 0;
            }
            return lead;
        }

        int beaten(int day, int a, int b) {
            if (!in(day, 0, 99) || !two(a, b)) {
                return -1;
            }
            int lead = lead(day, a, b);
            return lead == 0 ? -5 : lead > 0 ? a : b;
        }

        int rings(int day) {
            if (!in(day, 0, 99)) {
                return -1;
            }
            int count = 0;
            for (int a = 0; a < n; a++) {
                for (int b = 0; b < n; b++) {
                    for (int c = 0; c < n; c++) {
                        boolean all = a != b && b != c && c != a;
                        count += all && lead(day, a, b) > 0 && lead(day, b, c) > 0 && lead(day, c, a) > 0 ? 1 : 0;
                    }
                }
            }
            return count / 3;
        }

        int fixture(int home, int away) {
            if (!two(home, away)) {
                return -1;
            }
            if (fixtures.size() == 12) {
                return -4;
            }
            fixtures.add(new int[] {home, away});
            return fixtures.size();
        }

        int clears() {
            int before = fixtures.size();
            fixtures.clear();
            return before;
        }

        private int[] scoresOf(BigInteger[] tops, int day) {
            int[] scores = new int[n];
            for (long[] g : counting(day)) {
                scores[(int) g[0]] += g[2] > g[3] ? 2 : g[2] == g[3] ? 1 : 0;
                scores[(int) g[1]] += g[2] < g[3] ? 2 : g[2] == g[3] ? 1 : 0;
            }
            for (int[] f : fixtures) {
                int predicted = predictedOf(tops, f[0], f[1]);
                for (int team : f) {
                    scores[team] += predicted == team ? 2 : predicted == -5 ? 1 : 0;
                }
            }
            return scores;
        }

        int score(int model, int day, int team) {
            if (!asked(model, day) || !in(team, 0, n - 1)) {
                return -1;
            }
            BigInteger[] tops = topsOf(counting(day), model);
            return flawOf(tops) != 0 ? flawOf(tops) : scoresOf(tops, day)[team];
        }

        int place(int model, int day, int k) {
            if (!asked(model, day) || !in(k, 0, n - 1)) {
                return -1;
            }
            BigInteger[] tops = topsOf(counting(day), model);
            if (flawOf(tops) != 0) {
                return flawOf(tops);
            }
            int[] scores = scoresOf(tops, day);
            List<Integer> order = ranksOf(tops);
            order.sort((a, b) -> Integer.compare(scores[b], scores[a]));
            return order.get(k);
        }

        int feed(int letter) {
            if (!in(letter, 1, 127)) {
                return -2;
            }
            if (tape.length() == 120) {
                return -4;
            }
            tape += (char) letter;
            return tape.length();
        }

        int clear() {
            int before = tape.length();
            tape = "";
            return before;
        }

        int results() {
            String text = tape;
            tape = "";
            int good = text.length();
            while (good > 0 && !goesOn(text.substring(0, good))) {
                good--;
            }
            String read = text.substring(0, good);
            List<long[]> found = new ArrayList<>();
            int start = 0;
            for (String one : read.split(";", -1)) {
                int fault = faultWithin(one, games.size() + found.size());
                if (fault >= 0) {
                    return -100 - start - fault;
                }
                Matcher m = GAME.matcher(one);
                if (m.matches()) {
                    found.add(new long[] {number(m, 1), number(m, 2), number(m, 3), number(m, 4), number(m, 5),
                        m.group(6) == null ? 1 : number(m, 6), 0});
                }
                start += one.length() + 1;
            }
            if (!GAMES.matcher(text).matches()) {
                return -100 - good;
            }
            games.addAll(found);
            return found.size();
        }

        private static long number(Matcher m, int group) {
            return Long.parseLong(m.group(group));
        }

        private static boolean goesOn(String text) {
            Matcher m = GAMES.matcher(text);
            return m.matches() || m.hitEnd();
        }

        /** Of a text that goes on as a GAME: where a number or the room is at fault. */
        private int faultWithin(String one, int before) {
            if (before >= 30) {
                return 0;
            }
            if (one.length() > 0 && one.charAt(0) - '0' >= n) {
                return 0;
            }
            if (one.length() > 2 && (one.charAt(2) - '0' >= n || one.charAt(2) == one.charAt(0))) {
                return 2;
            }
            int x = one.indexOf('x');
            if (x >= 0 && x + 1 < one.length() && "123".indexOf(one.charAt(x + 1)) < 0) {
                return x + 1;
            }
            return -1;
        }

        private static int faultOf(String text) {
            List<Character> open = new ArrayList<>();
            boolean wantsPart = true;
            int at = 0;
            while (true) {
                if (wantsPart) {
                    if (at < text.length() && "(!".indexOf(text.charAt(at)) >= 0 && open.size() < 4) {
                        open.add(text.charAt(at++));
                        continue;
                    }
                    Matcher word = Pattern.compile("[a-z]*").matcher(text).region(at, text.length());
                    word.lookingAt();
                    if (!WORDS.contains(word.group())) {
                        return at;
                    }
                    Matcher rest = Pattern.compile("[<=>]-?\\d{1,4}").matcher(text).region(word.end(), text.length());
                    if (!rest.lookingAt()) {
                        return firstBad(text, word.end());
                    }
                    at = rest.end();
                    wantsPart = false;
                } else if (at == text.length()) {
                    return open.contains('(') ? at : -1;
                } else if ("&|".indexOf(text.charAt(at)) >= 0) {
                    at++;
                    wantsPart = true;
                } else if (text.charAt(at) == ')' && open.contains('(')) {
                    open.remove(open.size() - 1);
                    at++;
                } else {
                    return at;
                }
                while (!wantsPart && !open.isEmpty() && open.get(open.size() - 1) == '!') {
                    open.remove(open.size() - 1);
                }
            }
        }

        private static int firstBad(String text, int from) {
            int at = from;
            if (at < text.length() && "<=>".indexOf(text.charAt(at)) >= 0) {
                at++;
                if (at < text.length() && text.charAt(at) == '-') {
                    at++;
                }
            }
            return at;
        }

        /** By rewriting: each comparison as 1 or 0, then what stands between, until one sign is left. */
        private boolean isSo(String text, long[] g) {
            StringBuilder told = new StringBuilder();
            Matcher m = Pattern.compile("([a-z]+)([<=>])(-?\\d+)").matcher(text);
            int last = 0;
            while (m.find()) {
                int word = WORDS.indexOf(m.group(1));
                long value = word == 8 ? (g[2] > g[3] ? 1 : g[2] < g[3] ? 2 : 0) : word == 7 ? margin(g) : g[word];
                long number = Long.parseLong(m.group(3));
                boolean is = m.group(2).equals("<") ? value < number : m.group(2).equals("=") ? value == number
                    : value > number;
                told.append(text, last, m.start()).append(is ? '1' : '0');
                last = m.end();
            }
            String now = told.append(text.substring(last)).toString();
            while (now.length() > 1) {
                String before = now;
                now = now.replace("!0", "T").replace("!1", "0").replace("T", "1").replace("(0)", "0")
                    .replace("(1)", "1");
                if (now.equals(before)) {
                    now = now.replaceFirst("1&1", "1").replaceFirst("0&[01]|1&0", "0");
                }
                if (now.equals(before)) {
                    now = now.replaceFirst("(?<![&!])(1\\|[01]|0\\|1)(?!&)", "1");
                    now = now.replaceFirst("(?<![&!])0\\|0(?!&)", "0");
                }
                if (now.equals(before)) {
                    throw new IllegalStateException(text + " came to " + now);
                }
            }
            return now.equals("1");
        }

        int pick() {
            String text = tape;
            tape = "";
            int fault = faultOf(text);
            if (fault >= 0) {
                return -100 - fault;
            }
            int picked = 0;
            for (int g = 0; g < games.size(); g++) {
                picked |= isSo(text, games.get(g)) ? 1 << g : 0;
            }
            return picked;
        }

        int voidAll(int is) {
            if (!in(is, 0, 1)) {
                return -1;
            }
            int picked = pick();
            if (picked < 0) {
                return picked;
            }
            int count = 0;
            for (int g = 0; g < games.size(); g++) {
                if ((picked & 1 << g) != 0) {
                    count += games.get(g)[6] != is ? 1 : 0;
                    games.get(g)[6] = is;
                }
            }
            return count;
        }

        int spell() {
            List<String> told = new ArrayList<>();
            for (long[] g : games) {
                if (g[6] == 0 && g[2] < 10000 && g[3] < 10000) {
                    told.add(g[0] + "-" + g[1] + ":" + g[2] + "-" + g[3] + "@" + g[4] + (g[5] == 1 ? "" : "x" + g[5]));
                }
            }
            paper = String.join(";", told);
            return paper.length();
        }

        int paper(int i) {
            return in(i, 0, paper.length() - 1) ? paper.charAt(i) : -1;
        }

        int told(int what) {
            Set<Long> days = new HashSet<>();
            int voided = 0;
            long greatest = -1;
            for (long[] g : games) {
                days.add(g[4]);
                voided += g[6];
                greatest = Math.max(greatest, g[4]);
            }
            int[] all = {n, games.size(), voided, fixtures.size(), guess == null ? 0 : 1, tape.length(),
                paper.length(), days.size(), (int) greatest};
            return in(what, 0, 8) ? all[what] : -1;
        }

        int list(int list, int size) {
            if (!in(list, 0, 3)) {
                return -1;
            }
            if (!in(size, 0, 20)) {
                return size < 0 ? -14 : -2;
            }
            lists[list] = new long[size];
            return 1;
        }

        int set(int list, int i, long v) {
            if (!in(list, 0, 3)) {
                return -1;
            }
            if (lists[list] == null) {
                return -11;
            }
            if (!in(i, 0, lists[list].length - 1)) {
                return -13;
            }
            lists[list][i] = v;
            return 1;
        }

        long get(int list, int i) {
            return in(list, 0, 3) && lists[list] != null && in(i, 0, lists[list].length - 1) ? lists[list][i] : NO;
        }

        int judge(int model, int day, int list, int i) {
            if (!asked(model, day) || !in(list, 0, 3)) {
                return -1;
            }
            if (lists[list] == null) {
                return -11;
            }
            if (i < 0 || (long) i + n >= lists[list].length) {
                return -13;
            }
            BigInteger[] told = new BigInteger[n];
            for (int j = 0; j < n; j++) {
                told[j] = BigInteger.valueOf(lists[list][i + 1 + j]);
            }
            BigInteger[][] m = matrixOf(counting(day), model);
            for (int row = 0; row < n; row++) {
                BigInteger sum = summed(m[row], told);
                BigInteger scaled = rightOf(counting(day), model)[row].multiply(BigInteger.valueOf(lists[list][i]));
                if (sum == null || !fits(sum.multiply(below(model))) || !fits(scaled)) {
                    return -6;
                }
                if (!sum.multiply(below(model)).equals(scaled)) {
                    return row;
                }
            }
            return -5;
        }

        int image() {
            kept = new Other();
            kept.take(this);
            return games.size();
        }

        int undo() {
            if (kept == null) {
                return -3;
            }
            take(kept);
            return games.size();
        }
    }

    private final Random random;
    private final ScheduleDesk desk = new ScheduleDesk();
    private final Other other = new Other();
    private final StringBuilder calls = new StringBuilder();
    private final boolean isLarge;
    private boolean isWrong = false;
    private int made = 0;

    private OracleTest(long seed) {
        random = new Random(seed);
        isLarge = random.nextInt(3) == 0;
    }

    private void due(String call, long got, long want) {
        calls.append(call).append(' ').append(got).append('\n');
        made++;
        if (got != want && !isWrong && made <= CALLS) {
            isWrong = true;
            wrong++;
            String all = calls.toString();
            System.out.println(all.substring(Math.max(0, all.length() - 1500)) + "^ due is " + want);
        }
    }

    private boolean seldom() {
        return random.nextInt(25) == 0;
    }

    private int number(int low, int high) {
        if (seldom()) {
            int[] odd = {low - 1, high + 1, Integer.MIN_VALUE, Integer.MAX_VALUE};
            return odd[random.nextInt(odd.length)];
        }
        return low + random.nextInt(high - low + 1);
    }

    private int team() {
        return number(0, other.n - 1);
    }

    private int model() {
        return number(0, 2);
    }

    private int day() {
        return random.nextInt(3) == 0 ? 99 : number(0, 99);
    }

    private int gameNumber() {
        return number(0, Math.max(0, other.games.size() - 1));
    }

    private long points() {
        switch (random.nextInt(seldom() ? 8 : isLarge ? 6 : 4)) {
            case 0:
                return random.nextInt(4);
            case 1:
            case 2:
                return random.nextInt(40);
            case 3:
                return random.nextInt(11000);
            case 4:
                return MUCH - random.nextInt(3);
            case 5:
                return Math.floorMod(random.nextLong(), MUCH);
            case 6:
                return MUCH + 1;
            default:
                return -1;
        }
    }

    private void callGames() {
        int home = team();
        int away = team();
        long f = points();
        long a = random.nextInt(5) == 0 ? f : points();
        int day = day();
        int weight = number(1, 3);
        due("game " + home + " " + away + " " + f + " " + a + " " + day + " " + weight,
            desk.game(home, away, f, a, day, weight), other.game(home, away, f, a, day, weight));
    }

    private void callState(int kind) {
        int g = gameNumber();
        int what = number(0, 7);
        int is = number(0, 1);
        switch (kind) {
            case 0:
                due("of " + g + " " + what, desk.of(g, what), other.of(g, what));
                break;
            case 1:
                due("voids " + g + " " + is, desk.voids(g, is), other.voids(g, is));
                break;
            case 2:
                long cap = points();
                due("cap " + cap, desk.cap(cap), other.cap(cap));
                break;
            case 3:
                due("drop", desk.drop(), other.drop());
                break;
            case 4:
                int n = number(2, 6);
                if (random.nextInt(6) == 0) {
                    due("teams " + n, desk.teams(n), other.teams(n));
                }
                break;
            case 5:
                due("image", desk.image(), other.image());
                break;
            default:
                if (random.nextInt(3) == 0) {
                    due("undo", desk.undo(), other.undo());
                }
        }
    }

    private void callRows(int kind) {
        int m = model();
        int d = day();
        int i = team();
        int j = team();
        int p = number(0, 1);
        int g = gameNumber();
        String call = kind + ". of rows " + m + " " + d + " " + i + " " + j + " " + p + " " + g;
        switch (kind) {
            case 0:
                due("matrix " + call, desk.matrix(m, d, i, j), other.matrix(m, d, i, j));
                due("right " + call, desk.right(m, d, i), other.right(m, d, i));
                break;
            case 1:
                due("det " + call, desk.det(m, d), other.det(m, d));
                due("cofactor " + call, desk.cofactor(m, d, i, j), other.cofactor(m, d, i, j));
                break;
            case 2:
                due("rating " + call, desk.rating(m, d, i, p), other.rating(m, d, i, p));
                break;
            case 3:
                due("rank " + call, desk.rank(m, d, i), other.rank(m, d, i));
                break;
            case 4:
                due("schedule " + call, desk.schedule(m, d, i, p), other.schedule(m, d, i, p));
                break;
            case 5:
                due("predict " + call, desk.predict(m, d, i, j), other.predict(m, d, i, j));
                break;
            case 6:
                due("upsets " + call, desk.upsets(m, d), other.upsets(m, d));
                break;
            case 7:
                due("would " + call, desk.would(m, d, i, p), other.would(m, d, i, p));
                break;
            case 8:
                due("without " + call, desk.without(m, d, g, i, p), other.without(m, d, g, i, p));
                break;
            case 9:
                due("upturns " + call, desk.upturns(m, d, g), other.upturns(m, d, g));
                break;
            case 10:
                due("score " + call, desk.score(m, d, i), other.score(m, d, i));
                break;
            default:
                due("place " + call, desk.place(m, d, i), other.place(m, d, i));
        }
    }

    private void callTwos(int kind) {
        int a = team();
        int b = team();
        int d = day();
        switch (kind) {
            case 0:
                long f = points();
                long v = points();
                due("guess " + a + " " + b + " " + f + " " + v, desk.guess(a, b, f, v), other.guess(a, b, f, v));
                break;
            case 1:
                int i = number(-1, 15);
                int what = number(0, 3);
                due("duel " + i + " " + what, desk.duel(i, what), other.duel(i, what));
                break;
            case 2:
                due("beaten " + d + " " + a + " " + b, desk.beaten(d, a, b), other.beaten(d, a, b));
                break;
            case 3:
                due("rings " + d, desk.rings(d), other.rings(d));
                break;
            case 4:
                due("fixture " + a + " " + b, desk.fixture(a, b), other.fixture(a, b));
                break;
            case 5:
                if (seldom()) {
                    due("clears", desk.clears(), other.clears());
                }
                break;
            default:
                int t = number(0, 8);
                due("told " + t, desk.told(t), other.told(t));
        }
    }

    private String resultsText() {
        StringBuilder text = new StringBuilder();
        int count = 1 + random.nextInt(random.nextInt(4) == 0 ? 12 : 2);
        for (int k = 0; k < count; k++) {
            int home = random.nextInt(other.n);
            int away = seldom() ? random.nextInt(10) : (home + 1 + random.nextInt(other.n - 1)) % other.n;
            text.append(k == 0 ? "" : ";").append(home).append('-').append(away).append(':').append(random.nextInt(60));
            text.append('-').append(random.nextInt(random.nextInt(3) == 0 ? 10000 : 60)).append('@');
            text.append(random.nextInt(100)).append(random.nextInt(2) == 0 ? "" : "x" + number(1, 3) % 10);
        }
        return text.toString();
    }

    private String conditionText(int depth) {
        int kind = random.nextInt(10);
        if (kind < 2 && depth < 6) {
            return "!" + conditionText(depth + 1);
        }
        if (kind < 5 && depth < 6) {
            return "(" + conditionText(depth + 1) + ")";
        }
        if (kind < 8 && depth < 6) {
            return conditionText(depth + 1) + (random.nextBoolean() ? "&" : "|") + conditionText(depth + 1);
        }
        String word = Other.WORDS.get(random.nextInt(Other.WORDS.size()));
        int number = random.nextInt(word.equals("day") ? 100 : random.nextInt(3) == 0 ? 40 : 4);
        return word + "<=>".charAt(random.nextInt(3)) + (random.nextInt(6) == 0 ? "-" : "") + number;
    }

    private String spoilt(String text) {
        StringBuilder spoilt = new StringBuilder(text);
        String signs = "0123456789-:;@x()!&|<=>homeaway z";
        for (int k = random.nextInt(3); k >= 0 && spoilt.length() > 0; k--) {
            int at = random.nextInt(spoilt.length());
            char sign = signs.charAt(random.nextInt(signs.length()));
            switch (random.nextInt(4)) {
                case 0:
                    spoilt.setCharAt(at, sign);
                    break;
                case 1:
                    spoilt.insert(at, sign);
                    break;
                case 2:
                    spoilt.deleteCharAt(at);
                    break;
                default:
                    spoilt.setLength(at);
            }
        }
        return spoilt.toString();
    }

    private void callTexts(int kind) {
        String text = kind == 0 ? resultsText() : conditionText(0);
        text = random.nextInt(3) == 0 ? spoilt(text) : text;
        for (int k = 0; k < text.length(); k++) {
            due("feed " + text.charAt(k), desk.feed(text.charAt(k)), other.feed(text.charAt(k)));
        }
        calls.append(text);
        int is = number(0, 1);
        if (kind == 0) {
            due(" results", desk.results(), other.results());
        } else if (kind == 1 || random.nextInt(3) > 0) {
            due(" pick", desk.pick(), other.pick());
        } else {
            due(" voidAll " + is, desk.voidAll(is), other.voidAll(is));
        }
        if (seldom()) {
            int letter = number(1, 127);
            due("feed " + letter, desk.feed(letter), other.feed(letter));
        }
        if (seldom()) {
            due("clear", desk.clear(), other.clear());
        }
    }

    private void callPaper() {
        due("spell", desk.spell(), other.spell());
        for (int i = -1; i <= other.paper.length(); i++) {
            due("paper " + i, desk.paper(i), other.paper(i));
        }
    }

    private void callLists() {
        int list = number(0, 3);
        int i = number(0, 19);
        switch (random.nextInt(4)) {
            case 0:
                int size = number(0, 20);
                due("list " + list + " " + size, desk.list(list, size), other.list(list, size));
                break;
            case 1:
                long v = random.nextLong() >> random.nextInt(64);
                due("set " + list + " " + i + " " + v, desk.set(list, i, v), other.set(list, i, v));
                break;
            default:
                due("get " + list + " " + i, desk.get(list, i), other.get(list, i));
        }
    }

    /** Lists told RATINGS that are right, if they can be, or nearly so, and judges them. */
    private void callJudge() {
        int m = random.nextInt(3);
        int d = day();
        int list = number(0, 3);
        int at = random.nextInt(4);
        due("list " + list + " 20", desk.list(list, 20), other.list(list, 20));
        BigInteger[] tops = in(d) ? other.topsOf(other.counting(d), m) : null;
        long det = in(d) ? other.det(m, d) * (m == 0 ? 2 : 1) : 1;
        long by = random.nextInt(4) == 0 ? 1L << random.nextInt(63) : 1;
        setFor(list, at, det * by);
        for (int j = 0; j < other.n; j++) {
            boolean isTold = tops != null && tops[j] != null;
            setFor(list, at + 1 + j, isTold ? tops[j].longValue() * by : random.nextLong() >> random.nextInt(64));
        }
        if (random.nextInt(3) == 0) {
            setFor(list, at + random.nextInt(other.n + 1), random.nextLong() >> random.nextInt(64));
        }
        int from = random.nextInt(5) == 0 ? number(0, 20) : at;
        due("judge " + m + " " + d + " " + list + " " + from, desk.judge(m, d, list, from),
            other.judge(m, d, list, from));
    }

    private static boolean in(int day) {
        return day >= 0 && day < 100;
    }

    private void setFor(int list, int i, long v) {
        due("set " + list + " " + i + " " + v, desk.set(list, i, v), other.set(list, i, v));
    }

    private void run() {
        int n = number(2, 6);
        due("teams " + n, desk.teams(n), other.teams(n));
        while (made < CALLS && !isWrong) {
            int kind = random.nextInt(40);
            if (kind < 7) {
                callGames();
            } else if (kind < 12) {
                callState(random.nextInt(7));
            } else if (kind < 26) {
                callRows(random.nextInt(12));
            } else if (kind < 32) {
                callTwos(random.nextInt(7));
            } else if (kind < 35) {
                callTexts(random.nextInt(3));
            } else if (kind == 35) {
                callPaper();
            } else if (kind < 38) {
                callLists();
            } else {
                callJudge();
            }
        }
    }

    public static void main(String[] args) {
        int runs = args.length > 0 ? Integer.parseInt(args[0]) : RUNS;
        for (int run = 0; run < runs && wrong < 5; run++) {
            new OracleTest(run).run();
        }
        System.out.println(wrong == 0 ? runs + " runs: all answers are alike" : wrong + " runs are not alike");
        if (wrong != 0) {
            System.exit(1);
        }
    }
}
