import java.util.Random;

/** Runs of calls, made up by a seed, on the class and on the Oracle: each answer is compared. */
public final class RandomRunsTest {
    /** An object is good for 512 calls; the last step of a run, a text that is put, may take a hundred. */
    private static final int RUNS = 700, CALLS = 512 - 100;
    private static final int[] ODD = {Integer.MIN_VALUE, Integer.MAX_VALUE, -2, -1, 7, 10, 40, 60, 120, 121, 256};
    private static final Check check = new Check();

    private final Random random;
    private final ToldOver x = new ToldOver();
    private final Oracle due = new Oracle();
    private final String name;
    private int calls;
    private final int[] lengths = {0, 0, 0, 0};
    private final int[] sorts = {0, 0, 0, 0};

    private RandomRunsTest(int seed) {
        random = new Random(seed);
        name = "run " + seed;
    }

    public static void main(String[] args) {
        for (int seed = 0; seed < RUNS; seed++) {
            new RandomRunsTest(seed).run();
        }
        check.end("RandomRunsTest");
    }

    private void run() {
        check.part(name);
        for (int k = random.nextInt(5); k > 0; k--) {
            hire();
        }
        if (random.nextInt(8) > 0) {
            newTongues();
        }
        if (random.nextInt(8) > 0) {
            newWitness();
        }
        while (calls < CALLS) {
            call(random.nextInt(46));
        }
    }

    private void is(String call, long got, long want, int... arguments) {
        calls++;
        check.due(got == want ? call : calls + " " + call + java.util.Arrays.toString(arguments), got, want);
    }

    /** Mostly of 0 .. below - 1, now and then at the edge or far off. */
    private int pick(int below) {
        int dice = random.nextInt(40);
        if (dice == 0) {
            return ODD[random.nextInt(ODD.length)];
        }
        return dice == 1 ? below : dice == 2 ? -1 : random.nextInt(Math.max(1, below));
    }

    private int word() {
        return pick(due.many(0));
    }

    private int wordOrNothing() {
        return pick(due.many(0) + 1);
    }

    private int who() {
        return pick(due.many(1));
    }

    private void hire() {
        int kind = pick(3);
        int tired = pick(10);
        is("interpreter", x.interpreter(kind, tired), due.interpreter(kind, tired), kind, tired);
    }

    // ---- texts

    private String line(int n) {
        int[] digits = new int[n];
        int left = random.nextInt(3) == 0 ? 12 : 1 + random.nextInt(12);
        for (int k = 0; k < 30 && left > 0; k++) {
            int at = random.nextInt(n);
            int more = Math.min(Math.min(left, 9 - digits[at]), 1 + random.nextInt(6));
            digits[at] += more;
            left -= more;
        }
        StringBuilder s = new StringBuilder(";");
        for (int digit : digits) {
            s.append(digit);
        }
        return s.toString();
    }

    private String lines(int n) {
        StringBuilder s = new StringBuilder();
        for (int k = 0; k < n; k++) {
            s.append(line(n));
        }
        return s.toString();
    }

    private String spoilt(String text) {
        StringBuilder s = new StringBuilder(text);
        int at = random.nextInt(s.length());
        switch (random.nextInt(12)) {
            case 0 -> s.setLength(at);
            case 1 -> s.append("0;b".charAt(random.nextInt(3)));
            case 2 -> s.deleteCharAt(at);
            case 3, 4 -> s.setCharAt(at, "wvbp;0123456789:/".charAt(random.nextInt(17)));
            case 5 -> s.insert(at, "0;9".charAt(random.nextInt(3)));
            default -> { }
        }
        return s.toString();
    }

    /** Where the text begins on its SHEET. */
    private int write(int k, int sort, String text) {
        int ahead = random.nextInt(3);
        newSheet(k, sort, ahead + text.length() + random.nextInt(3));
        for (int i = 0; i < text.length(); i++) {
            put(k, ahead + i, text.charAt(i));
        }
        return ahead;
    }

    private void newTongues() {
        int n = 2 + random.nextInt(5);
        String text = spoilt("w" + n + lines(n) + ";b" + lines(n));
        int k = random.nextInt(4);
        int sort = random.nextInt(3);
        tongues(k, sort, write(k, sort, text), text.length());
    }

    private void newWitness() {
        int n = Math.max(2, due.many(0));
        String text = spoilt("v" + lines(n) + ";p" + random.nextInt(10));
        int k = random.nextInt(4);
        int sort = random.nextInt(3);
        witness(k, sort, write(k, sort, text), text.length());
    }

    private void tongues(int k, int sort, int i, int n) {
        is("tongues", x.tongues(k, sort, i, n), due.tongues(k, sort, i, n), k, sort, i, n);
        is("fault", x.fault(), due.fault());
    }

    private void witness(int k, int sort, int i, int n) {
        is("witness", x.witness(k, sort, i, n), due.witness(k, sort, i, n), k, sort, i, n);
        is("fault", x.fault(), due.fault());
    }

    // ---- sheets

    private void newSheet(int k, int sort, int n) {
        is("sheet", x.sheet(k, sort, n), due.sheet(k, sort, n), k, sort, n);
        if (k >= 0 && k < 4 && n >= 0 && n <= 120 && sort >= 0 && sort < 3) {
            lengths[k] = n;
            sorts[k] = sort;
        }
    }

    private void put(int k, int i, int v) {
        is("put", x.put(k, i, v), due.put(k, i, v), k, i, v);
    }

    private int length(int k) {
        return k >= 0 && k < 4 ? lengths[k] : 5;
    }

    private int sort(int k) {
        return k >= 0 && k < 4 && random.nextInt(20) > 0 ? sorts[k] : pick(3);
    }

    private void newHands() {
        int k = random.nextInt(4);
        int n = 1 + random.nextInt(9);
        newSheet(k, random.nextInt(3), n);
        for (int i = 0; i < n; i++) {
            put(k, i, random.nextInt(60) == 0 ? pick(4) : random.nextInt(Math.max(1, due.many(1))));
        }
        for (int t = 0; t < 6; t++) {
            hands(k, random.nextInt(2), n);
        }
    }

    private void hands(int k, int i, int n) {
        int way = pick(2);
        int word = word();
        int to = wordOrNothing();
        int which = pick(2);
        int count = random.nextInt(6) == 0 ? pick(10) : n - i;
        int s = sort(k);
        is("hands", x.hands(way, word, to, k, s, i, count, which),
                due.hands(way, word, to, k, s, i, count, which), way, word, to, k, s, i, count, which);
        is("fault", x.fault(), due.fault());
    }

    private void newBooth() {
        int k = random.nextInt(4);
        int n = 1 + random.nextInt(random.nextInt(9) == 0 ? 10 : 9);
        newSheet(k, random.nextInt(3), n + 1);
        int[] row = new int[n];
        for (int i = 1; i < n; i++) {
            int j = random.nextInt(i + 1);
            row[i] = row[j];
            row[j] = i;
        }
        for (int i = 0; i < n; i++) {
            put(k, i, row[i]);
        }
        if (random.nextInt(8) == 0) {
            put(k, random.nextInt(n), pick(9));
        }
        for (int what = 0; what < 3; what++) {
            booth(k, 0, n, what);
        }
        booth(k, pick(2), pick(n + 2), pick(3));
    }

    private void booth(int k, int i, int n, int what) {
        int s = sort(k);
        is("booth", x.booth(k, s, i, n, what), due.booth(k, s, i, n, what), k, s, i, n, what);
        is("fault", x.fault(), due.fault());
    }

    private void copy() {
        int k = pick(4);
        int other = random.nextInt(3) == 0 ? k : pick(4);
        int i = pick(length(k) + 1);
        int j = pick(length(other) + 1);
        int n = pick(Math.max(1, Math.min(length(k) - i, length(other) - j) + 2));
        is("copy", x.copy(k, i, other, j, n), due.copy(k, i, other, j, n), k, i, other, j, n);
        is("fault", x.fault(), due.fault());
        if (other >= 0 && other < 4) {
            for (int t = 0; t < 4; t++) {
                cell(other);
            }
        }
    }

    private void cell(int k) {
        int i = pick(length(k));
        int s = sort(k);
        is("cell", x.cell(k, i, s), due.cell(k, i, s), k, i, s);
        is("fault", x.fault(), due.fault());
    }

    // ---- calls

    private void call(int call) {
        int k = pick(4);
        int who = who();
        int word = word();
        int nothing = wordOrNothing();
        int way = pick(2);
        int which = pick(2);
        switch (call) {
            case 0 -> hire();
            case 1 -> rarely(this::newTongues);
            case 2 -> rarely(this::newWitness);
            case 3 -> newHands();
            case 4 -> newBooth();
            case 5 -> tongues(k, pick(3), pick(4), pick(20));
            case 6 -> witness(k, pick(3), pick(4), pick(20));
            case 7 -> hands(k, pick(3), 2);
            case 8 -> is("becomes", x.becomes(way, word, nothing), due.becomes(way, word, nothing), way, word, nothing);
            case 9 -> is("meant", x.meant(way, word), due.meant(way, word), way, word);
            case 10 -> is("alike", x.alike(way, word), due.alike(way, word), way, word);
            case 11 -> is("ofInterpreter", x.ofInterpreter(who, which), due.ofInterpreter(who, which), who, which);
            case 12 -> tire(who, pick(10));
            case 13, 14 -> is("carries", x.carries(who, way, word, nothing),
                    due.carries(who, way, word, nothing), who, way, word, nothing);
            case 15, 16 -> is("returns", x.returns(who, way, word), due.returns(who, way, word), who, way, word);
            case 17 -> is("answers", x.answers(word, nothing), due.answers(word, nothing), word, nothing);
            case 18, 19 -> is("heard", x.heard(who, word, nothing, which),
                    due.heard(who, word, nothing, which), who, word, nothing, which);
            case 20, 21 -> is("reached", x.reached(who, word, nothing, which),
                    due.reached(who, word, nothing, which), who, word, nothing, which);
            case 22, 23 -> is("said", x.said(who, word, nothing, which),
                    due.said(who, word, nothing, which), who, word, nothing, which);
            case 24 -> is("over", x.over(who, word, which), due.over(who, word, which), who, word, which);
            default -> callMore(call, k, who, word);
        }
    }

    private void callMore(int call, int k, int who, int word) {
        int some = pick(10);
        int other = who();
        switch (call) {
            case 25 -> ask(who, pick(1 << due.many(0)));
            case 26, 27, 28, 29 -> turn(who, word, random.nextInt(2) == 0 ? 0 : word(), some, 1 + pick(9));
            case 30 -> is("ofTurn", x.ofTurn(pickSame(6), 5), due.ofTurn(same, 5), same);
            case 31 -> is("ofTurn", x.ofTurn(0, pickSame(6)), due.ofTurn(0, same), same);
            case 32 -> is("back", x.back(pickSame(3)), due.back(same), same);
            case 33 -> wrong();
            case 34 -> is("again", x.again(pickSame(61)), due.again(same), same);
            case 35 -> shifts(who, other, 1 + pick(40), some);
            case 36 -> newSheet(k, pick(3), pick(121));
            case 37 -> is("lose", x.lose(k), due.lose(k), k);
            case 38 -> put(k, pick(length(k)), random.nextInt() >> random.nextInt(32));
            case 39 -> cell(k);
            case 40 -> copy();
            case 41 -> is("tell", x.tell(who), due.tell(who), who);
            case 42 -> is("pay", x.pay(who), due.pay(who), who);
            case 43 -> is("as", x.as(who, pickSame(3)), due.as(who, same), who, same);
            case 44 -> is("trace", x.trace(), due.trace());
            default -> is("many", x.many(pickSame(5)), due.many(same), same);
        }
        is("fault", x.fault(), due.fault());
    }

    private int same;

    private int pickSame(int below) {
        same = pick(below);
        return same;
    }

    /** What makes all anew would else leave too little to ask of what there is. */
    private void rarely(Runnable what) {
        if (random.nextInt(4) == 0) {
            what.run();
        }
    }

    private void tire(int who, int tired) {
        is("tire", x.tire(who, tired), due.tire(who, tired), who, tired);
    }

    private void ask(int who, int set) {
        is("ask", x.ask(who, set), due.ask(who, set), who, set);
    }

    private void turn(int who, int word, int heard, int stake, int minutes) {
        is("turn", x.turn(who, word, heard, stake, minutes), due.turn(who, word, heard, stake, minutes),
                who, word, heard, stake, minutes);
    }

    private void wrong() {
        int k = pick(8);
        is("wrong", x.wrong(k, 0), due.wrong(k, 0), k, 0);
        is("wrong", x.wrong(k, 1), due.wrong(k, 1), k, 1);
    }

    private void shifts(int who, int other, int m, int c) {
        is("shifts", x.shifts(who, other, m, c, -1), due.shifts(who, other, m, c, -1), who, other, m, c, -1);
        for (int t = 0; t < 4; t++) {
            int q = pick(m);
            is("shifts", x.shifts(who, other, m, c, q), due.shifts(who, other, m, c, q), who, other, m, c, q);
        }
    }
}
