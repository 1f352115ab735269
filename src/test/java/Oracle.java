import java.math.BigInteger;
import java.util.ArrayList;
import java.util.List;

/**
 * The document once more, by other means than the class: with fractions, texts that are split,
 * maps of every way a question can go, recursion. It is there to be compared with, so it takes
 * what is slow and plain.
 */
final class Oracle {
    static final int UNKNOWN = -1, OUTSIDE = -2, STATE = -3, FULL = -4, NONE = -9;
    static final long LOST = Long.MIN_VALUE;

    /** A fraction in least terms. */
    private record Part(BigInteger upper, BigInteger lower) {
        static final Part ZERO = of(0, 1), ONE = of(1, 1);

        static Part of(long upper, long lower) {
            return of(BigInteger.valueOf(upper), BigInteger.valueOf(lower));
        }

        static Part of(BigInteger upper, BigInteger lower) {
            BigInteger common = upper.gcd(lower);
            return new Part(upper.divide(common), lower.divide(common));
        }

        Part plus(Part p) {
            return of(upper.multiply(p.lower).add(p.upper.multiply(lower)), lower.multiply(p.lower));
        }

        Part times(Part p) {
            return of(upper.multiply(p.upper), lower.multiply(p.lower));
        }

        Part by(Part p) {
            return of(upper.multiply(p.lower), lower.multiply(p.upper));
        }

        Part rest() {
            return of(lower.subtract(upper), lower);
        }

        boolean above(Part p) {
            return upper.multiply(p.lower).compareTo(p.upper.multiply(lower)) > 0;
        }

        boolean isZero() {
            return upper.signum() == 0;
        }

        long which(int which) {
            return (which == 0 ? upper : lower).longValueExact();
        }
    }

    /** A row of a SHEET as Java itself would have it. */
    private sealed interface Row permits Bytes, Shorts, Ints {
        int get(int i);

        void set(int i, int v);

        int length();
    }

    private record Bytes(byte[] cells) implements Row {
        public int get(int i) {
            return cells[i];
        }

        public void set(int i, int v) {
            cells[i] = (byte) v;
        }

        public int length() {
            return cells.length;
        }
    }

    private record Shorts(short[] cells) implements Row {
        public int get(int i) {
            return cells[i];
        }

        public void set(int i, int v) {
            cells[i] = (short) v;
        }

        public int length() {
            return cells.length;
        }
    }

    private record Ints(int[] cells) implements Row {
        public int get(int i) {
            return cells[i];
        }

        public void set(int i, int v) {
            cells[i] = v;
        }

        public int length() {
            return cells.length;
        }
    }

    private class Kin {
        final int number = crew.size();
        int tired;

        int tell() {
            leave(1);
            return tired;
        }

        int pay() {
            leave(4);
            return number;
        }

        /** Of twelve times, ahead of being TIRED. */
        int twelfths(int way, int word, int to) {
            return told(way, word, to);
        }

        final Part carries(int way, int word, int to) {
            Part awake = Part.of(twelfths(way, word, to), 12).times(Part.of(12 - tired, 12));
            return to == n ? awake.plus(Part.of(tired, 12)) : awake;
        }
    }

    private class Trained extends Kin {
        int tell() {
            leave(2);
            return super.tell() + 100;
        }

        int twelfths(int way, int word, int to) {
            if (to == n) {
                return told(way, word, n);
            }
            if (to != mean(way, word)) {
                return told(way, word, to) / 2;
            }
            int others = 0;
            for (int k = 0; k < n; k++) {
                others += k == to ? 0 : twelfths(way, word, k);
            }
            return 12 - told(way, word, n) - others;
        }
    }

    private class Sworn extends Trained {
        int tell() {
            leave(3);
            int first = super.tell();
            leave(1);
            return first + tired;
        }

        int pay() {
            leave(5);
            return 40;
        }

        int twelfths(int way, int word, int to) {
            if (to == n) {
                return 0;
            }
            // What a TRAINED one makes of the others stays; the rest of the twelve is MEANT.
            int sum = 0;
            for (int k = 0; k < n; k++) {
                sum += k == mean(way, word) ? 0 : told(way, word, k) / 2;
            }
            return to == mean(way, word) ? 12 - sum : told(way, word, to) / 2;
        }
    }

    private record Turn(int x, int word, int heard, int stake, int minutes, int truth) {
    }

    private final Row[] sheets = new Row[4];
    private final List<Kin> crew = new ArrayList<>();
    private final List<Turn> turns = new ArrayList<>();
    private int n;
    private String[][] tongues = {{}, {}};
    private String[] witness;
    private int please;
    private int trace;
    private int fault;

    private void leave(int number) {
        trace = trace * 31 + number;
    }

    private static int sum(String digits) {
        return digits.chars().map(c -> c - '0').sum();
    }

    private int told(int way, int word, int to) {
        String digits = tongues[way][word];
        return to == n ? 12 - sum(digits) : digits.charAt(to) - '0';
    }

    private int mean(int way, int word) {
        String digits = tongues[way][word];
        int most = digits.chars().max().getAsInt();
        return digits.indexOf(most);
    }

    private static boolean in(int v, int least, int most) {
        return v >= least && v <= most;
    }

    private boolean word(int w) {
        return in(w, 0, n - 1);
    }

    // ---- texts

    /** The cells as a text; what is no code of any text becomes a #. */
    private static String text(Row row, int i, int n) {
        StringBuilder s = new StringBuilder();
        for (int k = i; k < i + n; k++) {
            s.append(in(row.get(k), 33, 126) ? (char) row.get(k) : '#');
        }
        return s.toString();
    }

    private static boolean isTongues(String text) {
        if (!text.matches("w[2-6](;[0-9]+)+;b(;[0-9]+)+")) {
            return false;
        }
        int n = text.charAt(1) - '0';
        String[] parts = text.split(";");
        if (parts.length != 2 * n + 2 || !parts[n + 1].equals("b")) {
            return false;
        }
        for (int k = 1; k < parts.length; k++) {
            if (k != n + 1 && !isWordLine(parts[k], n)) {
                return false;
            }
        }
        return true;
    }

    private static boolean isWordLine(String digits, int n) {
        return digits.matches("[0-9]+") && digits.length() == n && in(sum(digits), 1, 12);
    }

    private static boolean isWitness(String text, int n) {
        String[] parts = text.split(";");
        if (!text.matches("v(;[0-9]+)+;p[0-9]") || parts.length != n + 2) {
            return false;
        }
        for (int k = 1; k <= n; k++) {
            if (!isWordLine(parts[k], n)) {
                return false;
            }
        }
        return true;
    }

    /** A text goes on with a code, if what can stand behind it makes it a whole one. */
    private static boolean goesOn(String head, String[] shapes, boolean tongues, int n) {
        for (String shape : shapes) {
            if (head.length() > shape.length()) {
                continue;
            }
            String whole = head + shape.substring(head.length());
            String spare = mended(whole, head.length());
            if (tongues ? isTongues(spare) : isWitness(spare, n)) {
                return true;
            }
        }
        return false;
    }

    /** Behind the head each line's last digit is what the line needs. */
    private static String mended(String whole, int head) {
        StringBuilder s = new StringBuilder(whole);
        int sum = 0;
        for (int k = 0; k < s.length(); k++) {
            char c = s.charAt(k);
            if (c == ';') {
                sum = 0;
            } else if (c == 'x') {
                s.setCharAt(k, sum == 0 ? '1' : '0');
            } else if (Character.isDigit(c)) {
                sum += c - '0';
            }
        }
        return s.toString();
    }

    private static String shape(int n) {
        return (";" + "0".repeat(n - 1) + "x").repeat(n);
    }

    private static int firstFault(String text, String[] shapes, boolean tongues, int n) {
        for (int k = 0; k < text.length(); k++) {
            if (!goesOn(text.substring(0, k + 1), shapes, tongues, n)) {
                return k;
            }
        }
        return text.length();
    }

    // ---- the cells of a SHEET

    private int cells(int k, int sort, int i, int n) {
        Row row = sheets[k];
        if (row != null && sort(row) != sort) {
            return 2;
        }
        if (row == null) {
            return 1;
        }
        if (n < 0) {
            return 4;
        }
        return i < 0 || (long) i + n > row.length() ? 3 : 0;
    }

    private static int sort(Row row) {
        return row instanceof Bytes ? 0 : row instanceof Shorts ? 1 : 2;
    }

    private int fault(int f) {
        fault = f;
        return -10 - f;
    }

    int tongues(int sheet, int sort, int i, int count) {
        fault = 0;
        if (!in(sheet, 0, 3)) {
            return UNKNOWN;
        }
        if (!in(sort, 0, 2)) {
            return OUTSIDE;
        }
        int f = cells(sheet, sort, i, count);
        if (f != 0) {
            return fault(f);
        }
        String text = text(sheets[sheet], i, count);
        if (!isTongues(text)) {
            String[] shapes = new String[5];
            for (int k = 2; k <= 6; k++) {
                shapes[k - 2] = "w" + k + shape(k) + ";b" + shape(k);
            }
            return -100 - firstFault(text, shapes, true, 0);
        }
        n = text.charAt(1) - '0';
        String[] parts = text.split(";");
        tongues = new String[2][n];
        for (int k = 0; k < n; k++) {
            tongues[0][k] = parts[1 + k];
            tongues[1][k] = parts[2 + n + k];
        }
        witness = null;
        turns.clear();
        return n;
    }

    int becomes(int way, int word, int to) {
        if (!word(word) || !in(to, 0, n)) {
            return UNKNOWN;
        }
        return in(way, 0, 1) ? told(way, word, to) : OUTSIDE;
    }

    int meant(int way, int word) {
        return !word(word) ? UNKNOWN : !in(way, 0, 1) ? OUTSIDE : mean(way, word);
    }

    int alike(int way, int word) {
        if (!word(word)) {
            return UNKNOWN;
        }
        if (!in(way, 0, 1)) {
            return OUTSIDE;
        }
        int set = 0;
        for (int k = n - 1; k >= 0; k--) {
            set = set * 2 + (k != word && mean(way, k) == mean(way, word) ? 1 : 0);
        }
        return set;
    }

    int interpreter(int kind, int tired) {
        if (!in(kind, 0, 2) || !in(tired, 0, 9)) {
            return OUTSIDE;
        }
        if (crew.size() == 4) {
            return FULL;
        }
        Kin one = kind == 0 ? new Kin() : kind == 1 ? new Trained() : new Sworn();
        one.tired = tired;
        crew.add(one);
        return one.number;
    }

    private boolean one(int x) {
        return in(x, 0, crew.size() - 1);
    }

    private int kind(int x) {
        Kin one = crew.get(x);
        return one instanceof Sworn ? 2 : one instanceof Trained ? 1 : 0;
    }

    int ofInterpreter(int x, int what) {
        return !one(x) ? UNKNOWN : what == 0 ? kind(x) : what == 1 ? crew.get(x).tired : OUTSIDE;
    }

    int tire(int x, int tired) {
        if (!one(x)) {
            return UNKNOWN;
        }
        if (!in(tired, 0, 9)) {
            return OUTSIDE;
        }
        int was = crew.get(x).tired;
        crew.get(x).tired = tired;
        return was;
    }

    int carries(int x, int way, int word, int to) {
        if (!one(x) || !word(word) || !in(to, 0, n)) {
            return UNKNOWN;
        }
        if (!in(way, 0, 1)) {
            return OUTSIDE;
        }
        Part times = crew.get(x).carries(way, word, to).times(Part.of(144, 1));
        return (int) (times.which(0) / times.which(1));
    }

    /** How likely a WORD is another behind these, by recursion from the first on. */
    private Part behind(List<Integer> row, int way, int word, int to) {
        if (word == n || row.isEmpty()) {
            return word == to ? Part.ONE : Part.ZERO;
        }
        Part sum = Part.ZERO;
        for (int k = 0; k <= n; k++) {
            Part p = crew.get(row.get(0)).carries(way, word, k);
            if (!p.isZero()) {
                sum = sum.plus(p.times(behind(row.subList(1, row.size()), 1 - way, k, to)));
            }
        }
        return sum;
    }

    int returns(int x, int way, int word) {
        if (!one(x) || !word(word)) {
            return UNKNOWN;
        }
        if (!in(way, 0, 1)) {
            return OUTSIDE;
        }
        int best = -1;
        for (int k = n - 1; k >= 0; k--) {
            if (best < 0 || !behind(List.of(x, x), way, word, best).above(behind(List.of(x, x), way, word, k))) {
                best = k;
            }
        }
        return best;
    }

    long hands(int way, int word, int to, int sheet, int sort, int i, int count, int which) {
        fault = 0;
        if (!word(word) || !in(to, 0, n) || !in(sheet, 0, 3) || !in(way, 0, 1) || !in(sort, 0, 2)) {
            return LOST;
        }
        int f = cells(sheet, sort, i, count);
        if (f != 0) {
            fault = f;
            return LOST;
        }
        if (!in(count, 1, 8)) {
            return LOST;
        }
        List<Integer> row = new ArrayList<>();
        for (int k = 0; k < count; k++) {
            row.add(sheets[sheet].get(i + k));
        }
        for (int x : row) {
            if (!one(x)) {
                return LOST;
            }
        }
        return in(which, 0, 1) ? behindByMatrices(row, way, word, to).which(which) : LOST;
    }

    /** From the last hand back to the first: a row of how likely each WORD ends as the one asked for. */
    private Part behindByMatrices(List<Integer> row, int way, int word, int to) {
        Part[] ends = new Part[n + 1];
        for (int k = 0; k <= n; k++) {
            ends[k] = k == to ? Part.ONE : Part.ZERO;
        }
        for (int h = row.size() - 1; h >= 0; h--) {
            Part[] ahead = new Part[n + 1];
            ahead[n] = ends[n];
            for (int w = 0; w < n; w++) {
                ahead[w] = Part.ZERO;
                for (int k = 0; k <= n; k++) {
                    Part p = crew.get(row.get(h)).carries((way + h) % 2, w, k);
                    ahead[w] = ahead[w].plus(p.times(ends[k]));
                }
            }
            ends = ahead;
        }
        return ends[word];
    }

    // ---- the WITNESS

    int witness(int sheet, int sort, int i, int count) {
        fault = 0;
        if (!in(sheet, 0, 3)) {
            return UNKNOWN;
        }
        if (!in(sort, 0, 2)) {
            return OUTSIDE;
        }
        if (n == 0) {
            return STATE;
        }
        int f = cells(sheet, sort, i, count);
        if (f != 0) {
            return fault(f);
        }
        String text = text(sheets[sheet], i, count);
        if (!isWitness(text, n)) {
            return -100 - firstFault(text, new String[] {"v" + shape(n) + ";p0"}, false, n);
        }
        witness = new String[n];
        System.arraycopy(text.split(";"), 1, witness, 0, n);
        please = text.charAt(text.length() - 1) - '0';
        turns.clear();
        return 1;
    }

    /** n: he is SILENT. */
    private Part answer(int word, int to) {
        int twelfths = to == n ? 12 - sum(witness[word]) : witness[word].charAt(to) - '0';
        Part own = Part.of(twelfths, 12).times(Part.of(12 - please, 12));
        return to == 0 ? own.plus(Part.of(please, 12)) : own;
    }

    int answers(int word, int to) {
        if (!word(word) || !in(to, 0, n)) {
            return UNKNOWN;
        }
        if (witness == null) {
            return STATE;
        }
        Part times = answer(word, to).times(Part.of(144, 1));
        return (int) (times.which(0) / times.which(1));
    }

    /** One way that a question can go. */
    private interface Wanted {
        boolean is(int reached, int said, int heard);
    }

    private Part likely(int x, int word, Wanted wanted) {
        Kin one = crew.get(x);
        Part sum = Part.ZERO;
        for (int reached = 0; reached <= n; reached++) {
            for (int said = 0; said <= n; said++) {
                for (int heard = 0; heard <= n; heard++) {
                    if (wanted.is(reached, said, heard)) {
                        sum = sum.plus(oneWay(one, word, reached, said, heard));
                    }
                }
            }
        }
        return sum;
    }

    private Part oneWay(Kin one, int word, int reached, int said, int heard) {
        Part there = one.carries(0, word, reached);
        Part own = reached == n ? (said == n ? Part.ONE : Part.ZERO) : answer(reached, said);
        Part home = said == n ? (heard == n ? Part.ONE : Part.ZERO) : one.carries(1, said, heard);
        return there.times(own).times(home);
    }

    long heard(int x, int word, int heard, int which) {
        if (!one(x) || !word(word) || !in(heard, 0, n) || !in(which, 0, 1) || witness == null) {
            return LOST;
        }
        return likely(x, word, (r, s, h) -> h == heard).which(which);
    }

    private boolean cannot(int x, int word, int heard, int which) {
        return !one(x) || !word(word) || !word(heard) || !in(which, 0, 1) || witness == null
                || likely(x, word, (r, s, h) -> h == heard).isZero();
    }

    long reached(int x, int word, int heard, int which) {
        if (cannot(x, word, heard, which)) {
            return LOST;
        }
        return likely(x, word, (r, s, h) -> h == heard && r == mean(0, word))
                .by(likely(x, word, (r, s, h) -> h == heard)).which(which);
    }

    private Part saying(int x, int word, int heard) {
        return likely(x, word, (r, s, h) -> h == heard && s < n && mean(1, s) == heard)
                .by(likely(x, word, (r, s, h) -> h == heard));
    }

    long said(int x, int word, int heard, int which) {
        return cannot(x, word, heard, which) ? LOST : saying(x, word, heard).which(which);
    }

    private Part getsOver(int x, int word) {
        return likely(x, word, (r, s, h) -> r == mean(0, word) && s < n && h == mean(1, s));
    }

    long over(int x, int word, int which) {
        if (!one(x) || !word(word) || !in(which, 0, 1) || witness == null) {
            return LOST;
        }
        return getsOver(x, word).which(which);
    }

    int ask(int x, int set) {
        if (!one(x)) {
            return UNKNOWN;
        }
        for (int k = 0; k < 32; k++) {
            if ((set >>> k & 1) == 1 && !word(k)) {
                return OUTSIDE;
            }
        }
        if (witness == null) {
            return STATE;
        }
        int best = NONE;
        for (int k = 0; k < n; k++) {
            if ((set >>> k & 1) == 1 && (best == NONE || getsOver(x, k).above(getsOver(x, best)))) {
                best = k;
            }
        }
        return best;
    }

    // ---- TURNS

    int turn(int x, int word, int heard, int stake, int minutes) {
        if (!one(x) || !word(word) || !word(heard)) {
            return UNKNOWN;
        }
        if (!in(stake, 0, 9) || !in(minutes, 1, 9)) {
            return OUTSIDE;
        }
        if (witness == null) {
            return STATE;
        }
        if (turns.size() == 6) {
            return FULL;
        }
        int truth = 0;
        if (!cannot(x, word, heard, 0)) {
            Part said = saying(x, word, heard);
            truth = (int) (1000 * said.which(0) / said.which(1));
        }
        turns.add(new Turn(x, word, heard, stake, minutes, truth));
        return turns.size() - 1;
    }

    int ofTurn(int t, int what) {
        if (!in(t, 0, turns.size() - 1)) {
            return UNKNOWN;
        }
        Turn turn = turns.get(t);
        return switch (what) {
            case 0 -> turn.x;
            case 1 -> turn.word;
            case 2 -> turn.heard;
            case 3 -> turn.stake;
            case 4 -> turn.minutes;
            case 5 -> turn.truth;
            default -> OUTSIDE;
        };
    }

    int back(int k) {
        if (!in(k, 0, turns.size())) {
            return OUTSIDE;
        }
        for (int t = 0; t < k; t++) {
            turns.remove(turns.size() - 1);
        }
        return turns.size();
    }

    long wrong(int k, int which) {
        if (!in(k, 0, 7) || !in(which, 0, 1)) {
            return LOST;
        }
        List<Turn> yes = turns.stream().filter(t -> t.heard == 0).toList();
        Part sum = Part.ZERO;
        for (int set = 0; set < 1 << yes.size(); set++) {
            if (Integer.bitCount(set) < k) {
                Part p = Part.ONE;
                for (int t = 0; t < yes.size(); t++) {
                    Part truth = Part.of(yes.get(t).truth, 1000);
                    p = p.times((set >> t & 1) == 1 ? truth : truth.rest());
                }
                sum = sum.plus(p);
            }
        }
        return sum.which(which);
    }

    int again(int minutes) {
        if (!in(minutes, 0, 60)) {
            return OUTSIDE;
        }
        List<int[]> sets = new ArrayList<>();
        for (int set = 0; set < 1 << turns.size(); set++) {
            int[] line = {0, 0, set};
            for (int t = 0; t < turns.size(); t++) {
                if ((set >> t & 1) == 1) {
                    line[0] -= turns.get(t).stake * (1000 - turns.get(t).truth);
                    line[1] += turns.get(t).minutes;
                }
            }
            if (line[1] <= minutes) {
                sets.add(line);
            }
        }
        sets.sort(java.util.Arrays::compare);
        return sets.get(0)[2];
    }

    // ---- SHIFTS, a BOOTH

    private int[][][][] costs;

    /** What the MINUTES from q on cost at least, the other one or the same having worked ahead. */
    private int least(int left, int a, int b, int last, int c) {
        if (left == 0) {
            return 0;
        }
        if (costs[left][a][b][last] < 0) {
            costs[left][a][b][last] = Math.min(first(left, a, b, last, c), second(left, a, b, last, c));
        }
        return costs[left][a][b][last];
    }

    private int first(int left, int a, int b, int last, int c) {
        return a + (last == 1 ? c : 0) + least(left - 1, Math.min(9, a + 1), Math.max(0, b - 1), 0, c);
    }

    private int second(int left, int a, int b, int last, int c) {
        return b + (last == 0 ? c : 0) + least(left - 1, Math.max(0, a - 1), Math.min(9, b + 1), 1, c);
    }

    int shifts(int x, int y, int m, int c, int q) {
        if (!one(x) || !one(y) || x == y) {
            return UNKNOWN;
        }
        if (!in(m, 1, 40) || !in(c, 0, 9)) {
            return OUTSIDE;
        }
        if (!in(q, -1, m - 1)) {
            return UNKNOWN;
        }
        costs = new int[m + 1][10][10][3];
        for (int[][][] byLeft : costs) {
            for (int[][] byFirst : byLeft) {
                for (int[] bySecond : byFirst) {
                    java.util.Arrays.fill(bySecond, -1);
                }
            }
        }
        int a = crew.get(x).tired;
        int b = crew.get(y).tired;
        int last = 2;
        if (q == -1) {
            return least(m, a, b, last, c);
        }
        for (int minute = 0; minute <= q; minute++) {
            boolean firstWorks = first(m - minute, a, b, last, c) <= second(m - minute, a, b, last, c);
            last = firstWorks ? 0 : 1;
            a = firstWorks ? Math.min(9, a + 1) : Math.max(0, a - 1);
            b = firstWorks ? Math.max(0, b - 1) : Math.min(9, b + 1);
        }
        return last;
    }

    int booth(int sheet, int sort, int i, int count, int what) {
        fault = 0;
        if (!in(sheet, 0, 3)) {
            return UNKNOWN;
        }
        if (!in(sort, 0, 2) || !in(what, 0, 2)) {
            return OUTSIDE;
        }
        int f = cells(sheet, sort, i, count);
        if (f != 0) {
            return fault(f);
        }
        if (!in(count, 1, 9)) {
            return OUTSIDE;
        }
        List<Integer> row = new ArrayList<>();
        for (int k = 0; k < count; k++) {
            row.add(sheets[sheet].get(i + k));
        }
        for (int k = 0; k < count; k++) {
            if (!row.contains(k)) {
                return OUTSIDE;
            }
        }
        int[] ticks = new int[count];
        int behind = 0;
        for (int k = 0; k < count; k++) {
            ticks[k] = Math.max(row.get(k), k == 0 ? 0 : ticks[k - 1] + 1);
            behind = Math.max(behind, ticks[k] - row.get(k));
        }
        int held = 0;
        for (int tick = 0; tick < 20; tick++) {
            int now = 0;
            for (int k = 0; k < count; k++) {
                now += row.get(k) <= tick && ticks[k] > tick ? 1 : 0;
            }
            held = Math.max(held, now);
        }
        return what == 0 ? ticks[count - 1] : what == 1 ? held : behind;
    }

    // ---- SHEETS, parts

    int sheet(int k, int sort, int count) {
        fault = 0;
        if (!in(k, 0, 3)) {
            return UNKNOWN;
        }
        if (!in(sort, 0, 2) || count > 120) {
            return OUTSIDE;
        }
        if (count < 0) {
            return fault(4);
        }
        sheets[k] = sort == 0 ? new Bytes(new byte[count])
                : sort == 1 ? new Shorts(new short[count]) : new Ints(new int[count]);
        return 1;
    }

    int lose(int k) {
        if (!in(k, 0, 3)) {
            return UNKNOWN;
        }
        int had = sheets[k] == null ? 0 : 1;
        sheets[k] = null;
        return had;
    }

    int put(int k, int i, int v) {
        fault = 0;
        if (!in(k, 0, 3)) {
            return UNKNOWN;
        }
        if (sheets[k] == null) {
            return fault(1);
        }
        if (!in(i, 0, sheets[k].length() - 1)) {
            return fault(3);
        }
        sheets[k].set(i, v);
        return 1;
    }

    long cell(int k, int i, int sort) {
        fault = 0;
        if (!in(k, 0, 3) || !in(sort, 0, 2)) {
            return LOST;
        }
        if (sheets[k] != null && sort(sheets[k]) != sort) {
            fault = 2;
        } else if (sheets[k] == null) {
            fault = 1;
        } else if (!in(i, 0, sheets[k].length() - 1)) {
            fault = 3;
        }
        return fault == 0 ? sheets[k].get(i) : LOST;
    }

    int copy(int k, int i, int other, int j, int count) {
        fault = 0;
        if (!in(k, 0, 3) || !in(other, 0, 3)) {
            return UNKNOWN;
        }
        if (sheets[k] == null || sheets[other] == null) {
            return fault(1);
        }
        if (sort(sheets[k]) != sort(sheets[other])) {
            return fault(2);
        }
        if (i < 0 || j < 0 || count < 0 || (long) i + count > sheets[k].length()
                || (long) j + count > sheets[other].length()) {
            return fault(3);
        }
        int[] held = new int[count];
        for (int c = 0; c < count; c++) {
            held[c] = sheets[k].get(i + c);
        }
        for (int c = 0; c < count; c++) {
            sheets[other].set(j + c, held[c]);
        }
        return count;
    }

    int tell(int x) {
        return one(x) ? crew.get(x).tell() : UNKNOWN;
    }

    int pay(int x) {
        return one(x) ? crew.get(x).pay() : UNKNOWN;
    }

    int as(int x, int kind) {
        fault = 0;
        if (!one(x)) {
            return UNKNOWN;
        }
        if (!in(kind, 0, 2)) {
            return OUTSIDE;
        }
        Class<?> wanted = kind == 0 ? Kin.class : kind == 1 ? Trained.class : Sworn.class;
        return wanted.isInstance(crew.get(x)) ? 1 : fault(2);
    }

    int trace() {
        return trace;
    }

    int fault() {
        return fault;
    }

    int many(int what) {
        int[] many = {n, crew.size(), witness == null ? 0 : 1, turns.size(), witness == null ? 0 : please};
        return in(what, 0, 4) ? many[what] : OUTSIDE;
    }
}
