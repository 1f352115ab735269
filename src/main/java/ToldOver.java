import java.util.Arrays;

/** Through an interpreter: what is asked, carried, answered, carried back and heard. */
public final class ToldOver {
    public static final int UNKNOWN = -1, OUTSIDE = -2, STATE = -3, FULL = -4, NONE = -9;
    public static final long LOST = Long.MIN_VALUE;

    private static final int NULL = 1, CAST = 2, INDEX = 3, SIZE = 4;
    private static final int FAULTS_BELOW = -10, TEXT_FAULTS_BELOW = -100;
    private static final int SORTS = 3, WAYS = 2, TO_WITNESS = 0, TO_COURT = 1;
    private static final int MOST_WORDS = 6, TWELVE = 12, GROSS = TWELVE * TWELVE;
    private static final int KIN = 0, TRAINED = 1, SWORN = 2, MOST_TIRED = 9;
    private static final int MOST_HANDS = 8, MOST_AGAIN = 60, MOST_SHIFTS = 40;

    private final Sheets sheets = new Sheets();
    private final Reader reader = new Reader();
    private final Tongues speech = new Tongues();
    private final Crew crew = new Crew();
    private final Witness stand = new Witness();
    private final Hearing hearing = new Hearing(speech, stand);
    private final Chain chain = new Chain();
    private final Protocol protocol = new Protocol();
    private final Shifts roster = new Shifts();
    private final Booth cabin = new Booth();
    private int latestFault;

    public ToldOver() {
    }

    // ---- 1 tongues

    public int tongues(int sheet, int sort, int i, int n) {
        int refusal = refuseRow(sheet, sort);
        if (refusal != 0) {
            return refusal;
        }
        int fault = comeTo(sheets.faultOfCells(sheet, sort, i, n));
        if (fault != 0) {
            return fault;
        }
        reader.open(sheets.rows[sheet], i, n);
        if (!reader.readsTongues()) {
            return TEXT_FAULTS_BELOW - reader.place();
        }
        speech.take(reader.digits, reader.words);
        stand.leave();
        protocol.clear();
        return speech.words;
    }

    public int becomes(int way, int word, int to) {
        if (!isWord(word) || !isWordOrNothing(to)) {
            return UNKNOWN;
        }
        return isWay(way) ? speech.twelfths(way, word, to) : OUTSIDE;
    }

    public int meant(int way, int word) {
        if (!isWord(word)) {
            return UNKNOWN;
        }
        return isWay(way) ? speech.meaning(way, word) : OUTSIDE;
    }

    public int alike(int way, int word) {
        if (!isWord(word)) {
            return UNKNOWN;
        }
        return isWay(way) ? speech.sameMeaning(way, word) : OUTSIDE;
    }

    // ---- 2 interpreters

    public int interpreter(int kind, int tired) {
        if (!isKind(kind) || !isTired(tired)) {
            return OUTSIDE;
        }
        return crew.isFull() ? FULL : crew.hire(kind, tired);
    }

    public int ofInterpreter(int x, int what) {
        if (!crew.has(x)) {
            return UNKNOWN;
        }
        if (what != 0 && what != 1) {
            return OUTSIDE;
        }
        return what == 0 ? crew.kinds[x] : crew.tired[x];
    }

    public int tire(int x, int tired) {
        if (!crew.has(x)) {
            return UNKNOWN;
        }
        if (!isTired(tired)) {
            return OUTSIDE;
        }
        int before = crew.tired[x];
        crew.tired[x] = tired;
        return before;
    }

    public int carries(int x, int way, int word, int to) {
        if (!crew.has(x) || !isWord(word) || !isWordOrNothing(to)) {
            return UNKNOWN;
        }
        if (!isWay(way)) {
            return OUTSIDE;
        }
        chain.begin(word);
        chain.hand(speech, way, crew.kinds[x], crew.tired[x]);
        return (int) chain.timesAs(to, speech.words);
    }

    public int returns(int x, int way, int word) {
        if (!crew.has(x) || !isWord(word)) {
            return UNKNOWN;
        }
        if (!isWay(way)) {
            return OUTSIDE;
        }
        chain.begin(word);
        chain.hand(speech, way, crew.kinds[x], crew.tired[x]);
        chain.hand(speech, otherWay(way), crew.kinds[x], crew.tired[x]);
        return chain.likeliest(speech.words);
    }

    public long hands(int way, int word, int to, int sheet, int sort, int i, int n, int which) {
        latestFault = 0;
        if (!isWord(word) || !isWordOrNothing(to) || !sheets.has(sheet) || !isWay(way) || !isSort(sort)) {
            return LOST;
        }
        if (comeTo(sheets.faultOfCells(sheet, sort, i, n)) != 0) {
            return LOST;
        }
        if (n < 1 || n > MOST_HANDS || !crew.hasAll(sheets.rows[sheet], i, n) || !isWhich(which)) {
            return LOST;
        }
        chain.begin(word);
        int next = way;
        for (int k = i; k < i + n; k++) {
            int x = sheets.rows[sheet][k];
            chain.hand(speech, next, crew.kinds[x], crew.tired[x]);
            next = otherWay(next);
        }
        return inLeastTerms(chain.timesAs(to, speech.words), chain.whole, which);
    }

    // ---- 3 the witness

    public int witness(int sheet, int sort, int i, int n) {
        int refusal = refuseRow(sheet, sort);
        if (refusal != 0) {
            return refusal;
        }
        if (speech.words == 0) {
            return STATE;
        }
        int fault = comeTo(sheets.faultOfCells(sheet, sort, i, n));
        if (fault != 0) {
            return fault;
        }
        reader.open(sheets.rows[sheet], i, n);
        if (!reader.readsWitness(speech.words)) {
            return TEXT_FAULTS_BELOW - reader.place();
        }
        stand.take(reader.digits, speech.words, reader.please);
        protocol.clear();
        return 1;
    }

    public int answers(int word, int to) {
        if (!isWord(word) || !isWordOrNothing(to)) {
            return UNKNOWN;
        }
        return stand.present ? stand.times[word][to] : STATE;
    }

    public long heard(int x, int word, int heard, int which) {
        if (!crew.has(x) || !isWord(word) || !isWordOrNothing(heard) || !isWhich(which) || !stand.present) {
            return LOST;
        }
        hearing.through(crew.kinds[x], crew.tired[x]);
        int times = heard == speech.words ? hearing.nothing(word) : hearing.heardTimes(word, heard);
        return inLeastTerms(times, Hearing.WHOLE, which);
    }

    public long reached(int x, int word, int heard, int which) {
        if (refusesHeard(x, word, heard, which)) {
            return LOST;
        }
        hearing.through(crew.kinds[x], crew.tired[x]);
        int whole = hearing.heardTimes(word, heard);
        return whole == 0 ? LOST : inLeastTerms(hearing.reachedTimes(word, heard), whole, which);
    }

    public long said(int x, int word, int heard, int which) {
        if (refusesHeard(x, word, heard, which)) {
            return LOST;
        }
        hearing.through(crew.kinds[x], crew.tired[x]);
        int whole = hearing.heardTimes(word, heard);
        return whole == 0 ? LOST : inLeastTerms(hearing.saidTimes(word, heard), whole, which);
    }

    public long over(int x, int word, int which) {
        if (!crew.has(x) || !isWord(word) || !isWhich(which) || !stand.present) {
            return LOST;
        }
        hearing.through(crew.kinds[x], crew.tired[x]);
        return inLeastTerms(hearing.overTimes(word), Hearing.WHOLE, which);
    }

    public int ask(int x, int set) {
        if (!crew.has(x)) {
            return UNKNOWN;
        }
        if (set < 0 || set >= 1 << speech.words) {
            return OUTSIDE;
        }
        if (!stand.present) {
            return STATE;
        }
        hearing.through(crew.kinds[x], crew.tired[x]);
        return hearing.bestOver(set);
    }

    // ---- 5 turns

    public int turn(int x, int word, int heard, int stake, int minutes) {
        if (!crew.has(x) || !isWord(word) || !isWord(heard)) {
            return UNKNOWN;
        }
        if (stake < 0 || stake > 9 || minutes < 1 || minutes > 9) {
            return OUTSIDE;
        }
        if (!stand.present) {
            return STATE;
        }
        if (protocol.isFull()) {
            return FULL;
        }
        hearing.through(crew.kinds[x], crew.tired[x]);
        int[] line = protocol.nextLine();
        line[Protocol.INTERPRETER] = x;
        line[Protocol.QUESTION] = word;
        line[Protocol.HEARD] = heard;
        line[Protocol.STAKE] = stake;
        line[Protocol.MINUTES] = minutes;
        line[Protocol.TRUTH] = hearing.truth(word, heard);
        return protocol.keepLine();
    }

    public int ofTurn(int t, int what) {
        if (t < 0 || t >= protocol.count) {
            return UNKNOWN;
        }
        return what < 0 || what >= Protocol.PARTS ? OUTSIDE : protocol.lines[t][what];
    }

    public int back(int k) {
        if (k < 0 || k > protocol.count) {
            return OUTSIDE;
        }
        protocol.count -= k;
        return protocol.count;
    }

    public long wrong(int k, int which) {
        if (k < 0 || k > Protocol.MOST + 1 || !isWhich(which)) {
            return LOST;
        }
        protocol.weighYes();
        return inLeastTerms(protocol.fewerThan(k), protocol.whole, which);
    }

    public int again(int minutes) {
        return minutes < 0 || minutes > MOST_AGAIN ? OUTSIDE : protocol.bestSet(minutes);
    }

    // ---- 6 shifts, a booth

    public int shifts(int x, int y, int m, int c, int q) {
        if (!crew.has(x) || !crew.has(y) || x == y) {
            return UNKNOWN;
        }
        if (m < 1 || m > MOST_SHIFTS || c < 0 || c > 9) {
            return OUTSIDE;
        }
        if (q < -1 || q >= m) {
            return UNKNOWN;
        }
        roster.plan(crew.tired[x], crew.tired[y], m, c);
        return q == -1 ? roster.cost() : roster.worker(q, m);
    }

    public int booth(int sheet, int sort, int i, int n, int what) {
        int refusal = refuseRow(sheet, sort);
        if (refusal != 0) {
            return refusal;
        }
        if (what < 0 || what > 2) {
            return OUTSIDE;
        }
        int fault = comeTo(sheets.faultOfCells(sheet, sort, i, n));
        if (fault != 0) {
            return fault;
        }
        if (n < 1 || n > Booth.MOST || !Booth.isEachOnce(sheets.rows[sheet], i, n)) {
            return OUTSIDE;
        }
        cabin.work(sheets.rows[sheet], i, n);
        return what == 0 ? cabin.end : what == 1 ? cabin.held : cabin.behind;
    }

    // ---- 7 sheets, parts

    public int sheet(int k, int sort, int n) {
        int refusal = refuseRow(k, sort);
        if (refusal != 0) {
            return refusal;
        }
        if (n > Sheets.LONGEST) {
            return OUTSIDE;
        }
        if (n < 0) {
            return comeTo(SIZE);
        }
        sheets.renew(k, sort, n);
        return 1;
    }

    public int lose(int k) {
        if (!sheets.has(k)) {
            return UNKNOWN;
        }
        return sheets.drop(k) ? 1 : 0;
    }

    public int put(int k, int i, int v) {
        latestFault = 0;
        if (!sheets.has(k)) {
            return UNKNOWN;
        }
        int fault = comeTo(sheets.faultOfCell(k, i));
        if (fault != 0) {
            return fault;
        }
        sheets.write(k, i, v);
        return 1;
    }

    public long cell(int k, int i, int sort) {
        if (refuseRow(k, sort) != 0) {
            return LOST;
        }
        int fault = sheets.isOtherSort(k, sort) ? CAST : sheets.faultOfCell(k, i);
        return comeTo(fault) != 0 ? LOST : sheets.rows[k][i];
    }

    public int copy(int k, int i, int other, int j, int n) {
        latestFault = 0;
        if (!sheets.has(k) || !sheets.has(other)) {
            return UNKNOWN;
        }
        int fault = comeTo(sheets.faultOfCopy(k, i, other, j, n));
        if (fault != 0) {
            return fault;
        }
        System.arraycopy(sheets.rows[k], i, sheets.rows[other], j, n);
        return n;
    }

    public int tell(int x) {
        return crew.has(x) ? crew.told(x) : UNKNOWN;
    }

    public int pay(int x) {
        return crew.has(x) ? crew.paid(x) : UNKNOWN;
    }

    public int as(int x, int kind) {
        latestFault = 0;
        if (!crew.has(x)) {
            return UNKNOWN;
        }
        if (!isKind(kind)) {
            return OUTSIDE;
        }
        return crew.kinds[x] < kind ? comeTo(CAST) : 1;
    }

    public int trace() {
        return crew.marks;
    }

    public int fault() {
        return latestFault;
    }

    public int many(int what) {
        switch (what) {
            case 0:
                return speech.words;
            case 1:
                return crew.count;
            case 2:
                return stand.present ? 1 : 0;
            case 3:
                return protocol.count;
            case 4:
                return stand.please;
            default:
                return OUTSIDE;
        }
    }

    // ---- what the calls share

    /** Forgets the latest FAULT too: a call that is refused has come to none. */
    private int refuseRow(int sheet, int sort) {
        latestFault = 0;
        if (!sheets.has(sheet)) {
            return UNKNOWN;
        }
        return isSort(sort) ? 0 : OUTSIDE;
    }

    private int comeTo(int fault) {
        latestFault = fault;
        return fault == 0 ? 0 : FAULTS_BELOW - fault;
    }

    private boolean refusesHeard(int x, int word, int heard, int which) {
        return !crew.has(x) || !isWord(word) || !isWord(heard) || !isWhich(which) || !stand.present;
    }

    private boolean isWord(int word) {
        return word >= 0 && word < speech.words;
    }

    /** One number above the WORDS stands for what is left out, not said or not heard. */
    private boolean isWordOrNothing(int to) {
        return to >= 0 && to <= speech.words;
    }

    private static boolean isWay(int way) {
        return way >= 0 && way < WAYS;
    }

    private static int otherWay(int way) {
        return way == TO_WITNESS ? TO_COURT : TO_WITNESS;
    }

    private static boolean isSort(int sort) {
        return sort >= 0 && sort < SORTS;
    }

    private static boolean isKind(int kind) {
        return kind >= KIN && kind <= SWORN;
    }

    private static boolean isTired(int tired) {
        return tired >= 0 && tired <= MOST_TIRED;
    }

    private static boolean isWhich(int which) {
        return which == 0 || which == 1;
    }

    private static long inLeastTerms(long upper, long lower, int which) {
        long common = greatestCommon(upper, lower);
        if (common == 0) {
            return LOST;
        }
        return (which == 0 ? upper : lower) / common;
    }

    private static long greatestCommon(long a, long b) {
        long larger = a;
        long smaller = b;
        // Two longs need fewer than a hundred steps.
        for (int step = 0; step < 200 && smaller != 0; step++) {
            long rest = larger % smaller;
            larger = smaller;
            smaller = rest;
        }
        return larger;
    }

    /** The SHEETS; a row keeps its place in memory, so that a new one costs no room. */
    private static final class Sheets {
        static final int LONGEST = 120;
        private static final int COUNT = 4, BYTES = 0, SHORTS = 1, NOTHING = -1;
        final int[][] rows = new int[COUNT][LONGEST];
        private final int[] sorts = new int[COUNT];
        private final int[] lengths = new int[COUNT];

        Sheets() {
            Arrays.fill(lengths, NOTHING);
        }

        boolean has(int k) {
            return k >= 0 && k < COUNT;
        }

        void renew(int k, int sort, int n) {
            Arrays.fill(rows[k], 0);
            sorts[k] = sort;
            lengths[k] = n;
        }

        boolean drop(int k) {
            boolean had = lengths[k] != NOTHING;
            lengths[k] = NOTHING;
            return had;
        }

        void write(int k, int i, int v) {
            rows[k][i] = sorts[k] == BYTES ? (byte) v : sorts[k] == SHORTS ? (short) v : v;
        }

        boolean isOtherSort(int k, int sort) {
            return lengths[k] != NOTHING && sorts[k] != sort;
        }

        int faultOfCell(int k, int i) {
            if (lengths[k] == NOTHING) {
                return NULL;
            }
            return i < 0 || i >= lengths[k] ? INDEX : 0;
        }

        int faultOfCells(int k, int sort, int i, int n) {
            if (isOtherSort(k, sort)) {
                return CAST;
            }
            if (lengths[k] == NOTHING) {
                return NULL;
            }
            if (n < 0) {
                return SIZE;
            }
            return areThere(k, i, n) ? 0 : INDEX;
        }

        int faultOfCopy(int k, int i, int other, int j, int n) {
            if (lengths[k] == NOTHING || lengths[other] == NOTHING) {
                return NULL;
            }
            if (sorts[k] != sorts[other]) {
                return CAST;
            }
            return n >= 0 && areThere(k, i, n) && areThere(other, j, n) ? 0 : INDEX;
        }

        /** The length less n does not wrap, where i and n together could. */
        private boolean areThere(int k, int i, int n) {
            return i >= 0 && i <= lengths[k] - n;
        }
    }

    /** Reads a TEXT code by code and stands still at the first with which none goes on. */
    private static final class Reader {
        final int[][] digits = new int[WAYS * MOST_WORDS][MOST_WORDS];
        int words;
        int please;
        private int[] row = new int[0];
        private int from;
        private int at;
        private int end;

        void open(int[] cells, int i, int n) {
            row = cells;
            from = i;
            at = i;
            end = i + n;
        }

        int place() {
            return at - from;
        }

        boolean readsTongues() {
            if (!takesSign('w')) {
                return false;
            }
            words = takeDigit(2, MOST_WORDS);
            return words >= 0
                    && takesTable(TO_WITNESS * MOST_WORDS, words)
                    && takesSign(';') && takesSign('b')
                    && takesTable(TO_COURT * MOST_WORDS, words)
                    && at == end;
        }

        boolean readsWitness(int count) {
            if (!takesSign('v') || !takesTable(0, count) || !takesSign(';') || !takesSign('p')) {
                return false;
            }
            please = takeDigit(0, 9);
            return please >= 0 && at == end;
        }

        private boolean takesTable(int first, int count) {
            for (int word = 0; word < count; word++) {
                if (!takesWord(digits[first + word], count)) {
                    return false;
                }
            }
            return true;
        }

        private boolean takesWord(int[] times, int count) {
            if (!takesSign(';')) {
                return false;
            }
            int together = 0;
            for (int to = 0; to < count; to++) {
                boolean mustCount = together == 0 && to == count - 1;
                int digit = takeDigit(mustCount ? 1 : 0, Math.min(9, TWELVE - together));
                if (digit < 0) {
                    return false;
                }
                times[to] = digit;
                together += digit;
            }
            return true;
        }

        private boolean takesSign(int code) {
            if (at >= end || row[at] != code) {
                return false;
            }
            at++;
            return true;
        }

        private int takeDigit(int least, int most) {
            if (at >= end || row[at] < '0' + least || row[at] > '0' + most) {
                return -1;
            }
            at++;
            return row[at - 1] - '0';
        }
    }

    /** Which WORD becomes which, both ways; row way * MOST_WORDS + WORD. */
    private static final class Tongues {
        int words;
        private final int[][] told = new int[WAYS * MOST_WORDS][MOST_WORDS + 1];
        private final int[] meanings = new int[WAYS * MOST_WORDS];

        void take(int[][] digits, int count) {
            words = count;
            for (int way = 0; way < WAYS; way++) {
                for (int word = 0; word < count; word++) {
                    takeWord(digits[way * MOST_WORDS + word], way * MOST_WORDS + word);
                }
            }
        }

        private void takeWord(int[] digits, int line) {
            int leftOut = TWELVE;
            int most = 0;
            for (int to = 0; to < words; to++) {
                told[line][to] = digits[to];
                leftOut -= digits[to];
                if (digits[to] > digits[most]) {
                    most = to;
                }
            }
            told[line][words] = leftOut;
            meanings[line] = most;
        }

        int twelfths(int way, int word, int to) {
            return told[way * MOST_WORDS + word][to];
        }

        int meaning(int way, int word) {
            return meanings[way * MOST_WORDS + word];
        }

        int sameMeaning(int way, int word) {
            int set = 0;
            for (int other = 0; other < words; other++) {
                if (other != word && meaning(way, other) == meaning(way, word)) {
                    set |= 1 << other;
                }
            }
            return set;
        }

        /** How often of 144 times a WORD is carried to which, by one of a kind who is so TIRED. */
        void carry(int[] times, int way, int word, int kind, int tired) {
            int[] line = told[way * MOST_WORDS + word];
            int meaning = meaning(way, word);
            int toMeaning = line[meaning];
            for (int to = 0; to < words; to++) {
                int kept = kind == KIN ? line[to] : line[to] / 2;
                times[to] = kept * (TWELVE - tired);
                if (to != meaning) {
                    toMeaning += line[to] - kept;
                }
            }
            if (kind == SWORN) {
                toMeaning += line[words];
            }
            times[meaning] = toMeaning * (TWELVE - tired);
        }
    }

    /** The INTERPRETERS, and the bodies by which they tell and are paid. */
    private static final class Crew {
        private static final int MOST = 4;
        final int[] kinds = new int[MOST];
        final int[] tired = new int[MOST];
        int count;
        int marks;

        boolean has(int x) {
            return x >= 0 && x < count;
        }

        boolean hasAll(int[] row, int i, int n) {
            for (int k = i; k < i + n; k++) {
                if (!has(row[k])) {
                    return false;
                }
            }
            return true;
        }

        boolean isFull() {
            return count >= MOST;
        }

        int hire(int kind, int tiredBy) {
            kinds[count] = kind;
            tired[count] = tiredBy;
            count++;
            return count - 1;
        }

        int told(int x) {
            return kinds[x] == SWORN ? toldBySworn(x) : kinds[x] == TRAINED ? toldByTrained(x) : toldByKin(x);
        }

        private int toldByKin(int x) {
            mark(1);
            return tired[x];
        }

        private int toldByTrained(int x) {
            mark(2);
            return toldByKin(x) + 100;
        }

        private int toldBySworn(int x) {
            mark(3);
            int fromTrained = toldByTrained(x);
            return fromTrained + toldByKin(x);
        }

        int paid(int x) {
            if (kinds[x] == SWORN) {
                mark(5);
                return 40;
            }
            mark(4);
            return x;
        }

        private void mark(int number) {
            marks = 31 * marks + number;
        }
    }

    /** The WITNESS: of 144 times how often he answers what reached him with which WORD. */
    private static final class Witness {
        final int[][] times = new int[MOST_WORDS][MOST_WORDS + 1];
        boolean present;
        int please;

        void leave() {
            present = false;
            please = 0;
        }

        void take(int[][] digits, int words, int pleases) {
            present = true;
            please = pleases;
            for (int word = 0; word < words; word++) {
                int silent = TWELVE;
                for (int to = 0; to < words; to++) {
                    times[word][to] = digits[word][to] * (TWELVE - please);
                    silent -= digits[word][to];
                }
                times[word][words] = silent * (TWELVE - please);
                times[word][0] += TWELVE * please;
            }
        }
    }

    /** A question and its answer through one INTERPRETER, in 144 * 144 * 144ths. */
    private static final class Hearing {
        static final int WHOLE = GROSS * GROSS * GROSS;
        private final Tongues speech;
        private final Witness stand;
        private final int[][] there = new int[MOST_WORDS][MOST_WORDS];
        private final int[][] home = new int[MOST_WORDS][MOST_WORDS];

        Hearing(Tongues speech, Witness stand) {
            this.speech = speech;
            this.stand = stand;
        }

        void through(int kind, int tired) {
            for (int word = 0; word < speech.words; word++) {
                speech.carry(there[word], TO_WITNESS, word, kind, tired);
                speech.carry(home[word], TO_COURT, word, kind, tired);
            }
        }

        int heardTimes(int word, int heard) {
            int sum = 0;
            for (int said = 0; said < speech.words; said++) {
                sum += saidAndHeard(word, said, heard);
            }
            return sum;
        }

        int nothing(int word) {
            int rest = WHOLE;
            for (int heard = 0; heard < speech.words; heard++) {
                rest -= heardTimes(word, heard);
            }
            return rest;
        }

        int reachedTimes(int word, int heard) {
            int meaning = speech.meaning(TO_WITNESS, word);
            int sum = 0;
            for (int said = 0; said < speech.words; said++) {
                sum += passing(word, meaning, said, heard);
            }
            return sum;
        }

        int saidTimes(int word, int heard) {
            int sum = 0;
            for (int said = 0; said < speech.words; said++) {
                if (speech.meaning(TO_COURT, said) == heard) {
                    sum += saidAndHeard(word, said, heard);
                }
            }
            return sum;
        }

        int overTimes(int word) {
            int meaning = speech.meaning(TO_WITNESS, word);
            int sum = 0;
            for (int said = 0; said < speech.words; said++) {
                sum += passing(word, meaning, said, speech.meaning(TO_COURT, said));
            }
            return sum;
        }

        int bestOver(int set) {
            int best = NONE;
            int most = -1;
            for (int word = 0; word < speech.words; word++) {
                if ((set >> word & 1) == 1) {
                    int times = overTimes(word);
                    if (times > most) {
                        best = word;
                        most = times;
                    }
                }
            }
            return best;
        }

        int truth(int word, int heard) {
            int whole = heardTimes(word, heard);
            return whole == 0 ? 0 : (int) (1000L * saidTimes(word, heard) / whole);
        }

        private int saidAndHeard(int word, int said, int heard) {
            int sum = 0;
            for (int reached = 0; reached < speech.words; reached++) {
                sum += passing(word, reached, said, heard);
            }
            return sum;
        }

        private int passing(int word, int reached, int said, int heard) {
            return there[word][reached] * stand.times[reached][said] * home[said][heard];
        }
    }

    /** A WORD that goes through some HANDS: how often of the whole it has become which. */
    private static final class Chain {
        long whole;
        private long[] now = new long[MOST_WORDS];
        private long[] next = new long[MOST_WORDS];
        private final int[] carried = new int[MOST_WORDS];

        void begin(int word) {
            whole = 1;
            Arrays.fill(now, 0);
            now[word] = 1;
        }

        void hand(Tongues speech, int way, int kind, int tired) {
            Arrays.fill(next, 0);
            for (int word = 0; word < speech.words; word++) {
                speech.carry(carried, way, word, kind, tired);
                for (int to = 0; to < speech.words; to++) {
                    next[to] += now[word] * carried[to];
                }
            }
            long[] spare = now;
            now = next;
            next = spare;
            whole *= GROSS;
        }

        long timesAs(int to, int words) {
            if (to < words) {
                return now[to];
            }
            long leftOut = whole;
            for (int word = 0; word < words; word++) {
                leftOut -= now[word];
            }
            return leftOut;
        }

        int likeliest(int words) {
            int best = 0;
            for (int word = 1; word < words; word++) {
                if (now[word] > now[best]) {
                    best = word;
                }
            }
            return best;
        }
    }

    /** The TURNS, a line each, with their parts in the order in which ofTurn() counts them. */
    private static final class Protocol {
        static final int INTERPRETER = 0, QUESTION = 1, HEARD = 2, STAKE = 3, MINUTES = 4, TRUTH = 5;
        static final int PARTS = 6, MOST = 6;
        private static final int SURE = 1000;
        final int[][] lines = new int[MOST][PARTS];
        int count;
        long whole;
        private final long[] trueOnes = new long[MOST + 1];

        void clear() {
            count = 0;
        }

        boolean isFull() {
            return count >= MOST;
        }

        int[] nextLine() {
            return lines[count];
        }

        int keepLine() {
            count++;
            return count - 1;
        }

        /** How often of the whole just so many of those in which 0 was heard are true. */
        void weighYes() {
            Arrays.fill(trueOnes, 0);
            trueOnes[0] = 1;
            whole = 1;
            for (int t = 0; t < count; t++) {
                if (lines[t][HEARD] == 0) {
                    weighOne(lines[t][TRUTH]);
                }
            }
        }

        private void weighOne(int truth) {
            for (int n = MOST; n > 0; n--) {
                trueOnes[n] = trueOnes[n] * (SURE - truth) + trueOnes[n - 1] * truth;
            }
            trueOnes[0] *= SURE - truth;
            whole *= SURE;
        }

        long fewerThan(int k) {
            long sum = 0;
            for (int n = 0; n < k && n <= MOST; n++) {
                sum += trueOnes[n];
            }
            return sum;
        }

        int bestSet(int minutes) {
            int best = 0;
            for (int set = 1; set < 1 << count; set++) {
                if (minutesOf(set) <= minutes && isBetter(set, best)) {
                    best = set;
                }
            }
            return best;
        }

        private boolean isBetter(int set, int best) {
            int gain = gainOf(set);
            int gainOfBest = gainOf(best);
            return gain > gainOfBest || gain == gainOfBest && minutesOf(set) < minutesOf(best);
        }

        private int minutesOf(int set) {
            int sum = 0;
            for (int t = 0; t < count; t++) {
                sum += (set >> t & 1) * lines[t][MINUTES];
            }
            return sum;
        }

        private int gainOf(int set) {
            int sum = 0;
            for (int t = 0; t < count; t++) {
                sum += (set >> t & 1) * lines[t][STAKE] * (SURE - lines[t][TRUTH]);
            }
            return sum;
        }
    }

    /**
     * SHIFTS. A row and its cost are one number, the cost above ROW_BITS and the first MINUTE the
     * highest bit of the row: so the least number is the cheapest row, of several the first.
     */
    private static final class Shifts {
        private static final int ROW_BITS = MOST_SHIFTS, DEGREES = MOST_TIRED + 1;
        private static final int STATES = DEGREES * DEGREES * 2;
        private static final long NEVER = Long.MAX_VALUE;
        private long[] now = new long[STATES];
        private long[] next = new long[STATES];
        private int plannedFor = -1;
        private long planned;

        /** Asked for each MINUTE in turn, the same row is wanted again and again: it is kept. */
        void plan(int first, int second, int minutes, int change) {
            int asked = ((first * DEGREES + second) * 10 + change) * (MOST_SHIFTS + 1) + minutes;
            if (asked == plannedFor) {
                return;
            }
            Arrays.fill(now, NEVER);
            now[stateOf(first, second, 0)] = 0;
            for (int minute = 0; minute < minutes; minute++) {
                workMinute(minute == 0 ? 0 : change, 1L << (minutes - 1 - minute));
            }
            planned = NEVER;
            for (int state = 0; state < STATES; state++) {
                planned = Math.min(planned, now[state]);
            }
            plannedFor = asked;
        }

        int cost() {
            return (int) (planned >> ROW_BITS);
        }

        int worker(int minute, int minutes) {
            return (int) (planned >> (minutes - 1 - minute) & 1);
        }

        private void workMinute(int change, long bit) {
            Arrays.fill(next, NEVER);
            for (int state = 0; state < STATES; state++) {
                if (now[state] != NEVER) {
                    workFirst(state, change);
                    workSecond(state, change, bit);
                }
            }
            long[] spare = now;
            now = next;
            next = spare;
        }

        private void workFirst(int state, int change) {
            int first = firstOf(state);
            long cost = first + (lastOf(state) == 0 ? 0 : change);
            int then = stateOf(Math.min(MOST_TIRED, first + 1), Math.max(0, secondOf(state) - 1), 0);
            next[then] = Math.min(next[then], now[state] + (cost << ROW_BITS));
        }

        private void workSecond(int state, int change, long bit) {
            int second = secondOf(state);
            long cost = second + (lastOf(state) == 1 ? 0 : change);
            int then = stateOf(Math.max(0, firstOf(state) - 1), Math.min(MOST_TIRED, second + 1), 1);
            next[then] = Math.min(next[then], now[state] + (cost << ROW_BITS) + bit);
        }

        private static int stateOf(int first, int second, int last) {
            return (first * DEGREES + second) * 2 + last;
        }

        private static int firstOf(int state) {
            return state / (2 * DEGREES);
        }

        private static int secondOf(int state) {
            return state / 2 % DEGREES;
        }

        private static int lastOf(int state) {
            return state % 2;
        }
    }

    /** A BOOTH, tick by tick. */
    private static final class Booth {
        static final int MOST = 9;
        int end;
        int held;
        int behind;

        static boolean isEachOnce(int[] row, int i, int n) {
            int seen = 0;
            for (int k = i; k < i + n; k++) {
                if (row[k] < 0 || row[k] >= n || (seen >> row[k] & 1) == 1) {
                    return false;
                }
                seen |= 1 << row[k];
            }
            return true;
        }

        void work(int[] row, int i, int n) {
            end = 0;
            held = 0;
            behind = 0;
            int said = 0;
            // All have come by tick n - 1, and then one is said in each tick.
            for (int tick = 0; tick < 2 * n && said < n; tick++) {
                int coming = row[i + said];
                if (coming <= tick) {
                    behind = Math.max(behind, tick - coming);
                    end = tick;
                    said++;
                }
                held = Math.max(held, Math.min(tick + 1, n) - said);
            }
        }
    }
}
