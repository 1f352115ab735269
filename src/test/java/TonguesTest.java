/** Promises 1 to 5: a new object, tongues, becomes, meant, alike. */
public final class TonguesTest {
    private static final Check check = new Check();
    private static final String TWO = "w2;93;21;b;55;09";
    private static final int MIN = Integer.MIN_VALUE, MAX = Integer.MAX_VALUE;

    public static void main(String[] args) {
        newObject();
        texts();
        textFaults();
        cellsOfATongue();
        tonguesMakeAllAnew();
        becomes();
        meant();
        alike();
        check.end("TonguesTest");
    }

    private static void newObject() {
        check.part("promise 1");
        ToldOver x = new ToldOver();
        for (int what = 0; what <= 4; what++) {
            check.due("many(" + what + ")", x.many(what), 0);
        }
        for (int k = 0; k < 4; k++) {
            check.due("lose(" + k + ")", x.lose(k), 0);
        }
        check.due("trace", x.trace(), 0);
        check.due("fault", x.fault(), 0);
        check.due("meant", x.meant(0, 0), ToldOver.UNKNOWN);
        check.due("becomes", x.becomes(0, 0, 0), ToldOver.UNKNOWN);
        check.due("ofInterpreter", x.ofInterpreter(0, 0), ToldOver.UNKNOWN);
        check.due("ofTurn", x.ofTurn(0, 0), ToldOver.UNKNOWN);
        check.due("witness", x.witness(0, 0, 0, 1), ToldOver.STATE);
        check.due("constants", ToldOver.LOST, Long.MIN_VALUE);
    }

    private static void texts() {
        check.part("promise 2, texts that are taken");
        ToldOver x = new ToldOver();
        check.due("two", Check.tongues(x, TWO), 2);
        check.due("many", x.many(0), 2);
        check.due("three", Check.tongues(x, "w3;444;930;001;b;100;010;093"), 3);
        check.due("many", x.many(0), 3);
        check.due("six", Check.tongues(x, six('2')), 6);
        check.due("six of one", Check.tongues(x, six('0')), -100 - 8);
        check.due("many stays", x.many(0), 6);
        check.due("twelve of 0 and 9 and 3", Check.tongues(x, "w2;93;39;b;90;01"), 2);
    }

    /** Each line is n times the same digit. */
    private static String six(char digit) {
        String lines = (";" + String.valueOf(digit).repeat(6)).repeat(6);
        return "w6" + lines + ";b" + lines;
    }

    private static void textFaults() {
        check.part("promise 2, first fault");
        faultAt("", 0);
        faultAt("v2;93;21;b;55;09", 0);
        faultAt("w", 1);
        faultAt("w1;9;b;9", 1);
        faultAt("w0", 1);
        faultAt("w7;0000009", 1);
        faultAt("wx", 1);
        faultAt("w2", 2);
        faultAt("w2,93;21;b;55;09", 2);
        faultAt("w2;", 3);
        faultAt("w2;94;21;b;55;09", 4);
        faultAt("w2;99;21;b;55;09", 4);
        faultAt("w2;00;21;b;55;09", 4);
        faultAt("w2;9;;21;b;55;09", 4);
        faultAt("w2;/3;21;b;55;09", 3);
        faultAt("w2;:3;21;b;55;09", 3);
        faultAt("w2;933", 5);
        faultAt("w2;93;21;b;55", 13);
        faultAt("w2;93;21;c;55;09", 9);
        faultAt("w2;93;21;12;b;55;09", 9);
        faultAt("w2;93;21b;55;09", 8);
        faultAt("w2;93;21;b55;09", 10);
        faultAt("w2;93;21;b;55;00", 15);
        faultAt("w2;93;21;b;75;66", 0, 2);
        faultAt("w2;93;21;b;76;09", 12);
        faultAt("w2;93;21;b;55;09;", 16);
        faultAt("w2;93;21;b;55;099", 16);
        faultAt("w3;660;66", 9);
        faultAt("w3;661", 5);
        faultAt("w3;000", 5);
        faultAt("w3;00", 5);
        faultAt("w3;931", 5);
        ToldOver x = new ToldOver();
        Check.row(x, 0, 2, 119, 50, 59, 57 + 256, 51);
        check.due("a code beyond bytes", x.tongues(0, 2, 0, 5), -103);
        Check.row(x, 0, 0, 119, 50, 59, 57 + 256);
        check.due("bytes cut it", x.tongues(0, 0, 0, 4), -104);
        Check.row(x, 0, 2, -119, MIN, MAX);
        check.due("minus", x.tongues(0, 2, 0, 3), -100);
        check.due("extremes", x.tongues(0, 2, 1, 2), -100);
    }

    private static void faultAt(String text, int place) {
        faultAt(text, place, 0);
    }

    /** Takes the text, where words is not 0. */
    private static void faultAt(String text, int place, int words) {
        for (int sort = 0; sort < 3; sort++) {
            ToldOver x = new ToldOver();
            Check.write(x, 1, sort, "##" + text + "#");
            int want = words == 0 ? -100 - place : words;
            check.due("tongues of " + text, x.tongues(1, sort, 2, text.length()), want);
            check.due("fault of " + text, x.fault(), 0);
            check.due("words of " + text, x.many(0), words);
        }
    }

    private static void cellsOfATongue() {
        check.part("promise 2, refusals and faults");
        ToldOver x = new ToldOver();
        check.due("no sheet", x.tongues(-1, 9, -1, -1), ToldOver.UNKNOWN);
        check.due("no sheet", x.tongues(4, 0, 0, 1), ToldOver.UNKNOWN);
        check.due("sort", x.tongues(0, 3, -1, -1), ToldOver.OUTSIDE);
        check.due("sort", x.tongues(0, -1, 0, 1), ToldOver.OUTSIDE);
        check.due("null ahead of size", x.tongues(0, 1, -1, -1), -11);
        check.due("fault", x.fault(), 1);
        Check.write(x, 0, 0, TWO);
        check.due("cast ahead of size", x.tongues(0, 1, -1, -1), -12);
        check.due("fault", x.fault(), 2);
        check.due("refused", x.tongues(0, 7, 0, 16), ToldOver.OUTSIDE);
        check.due("fault of a refused one", x.fault(), 0);
        check.due("size ahead of index", x.tongues(0, 0, -1, -1), -14);
        check.due("fault", x.fault(), 4);
        check.due("size", x.tongues(0, 0, 0, MIN), -14);
        check.due("index", x.tongues(0, 0, 0, 17), -13);
        check.due("fault", x.fault(), 3);
        check.due("index", x.tongues(0, 0, 1, 16), -13);
        check.due("index", x.tongues(0, 0, -1, 16), -13);
        check.due("index that wraps", x.tongues(0, 0, MAX, MAX), -13);
        check.due("index that wraps", x.tongues(0, 0, 1, MAX), -13);
        check.due("none of them, beyond", x.tongues(0, 0, 17, 0), -13);
        check.due("none of them, below", x.tongues(0, 0, -1, 0), -13);
        check.due("none of them, at the end", x.tongues(0, 0, 16, 0), -100);
        check.due("fault", x.fault(), 0);
        check.due("words", x.many(0), 0);
        check.due("all", x.tongues(0, 0, 0, 16), 2);
        x.lose(0);
        check.due("nothing is no cast", x.tongues(0, 2, 0, 16), -11);
        check.due("words", x.many(0), 2);
    }

    private static void tonguesMakeAllAnew() {
        check.part("promise 2, all anew");
        ToldOver x = new ToldOver();
        Check.tongues(x, TWO);
        x.interpreter(1, 4);
        x.tell(0);
        int trace = x.trace();
        Check.row(x, 1, 1, 300);
        check.due("witness", Check.witness(x, "v;63;07;p2"), 1);
        check.due("turn", x.turn(0, 0, 0, 1, 1), 0);
        check.due("bad text", Check.tongues(x, "w2;93;21;b;55;0"), -115);
        check.due("witness stays", x.many(2), 1);
        check.due("turns stay", x.many(3), 1);
        check.due("please stays", x.many(4), 2);
        check.due("tongues stay", x.becomes(1, 1, 1), 9);
        check.due("good text", Check.tongues(x, "w2;39;12;b;55;09"), 2);
        check.due("no witness", x.many(2), 0);
        check.due("no turns", x.many(3), 0);
        check.due("no please", x.many(4), 0);
        check.due("no answers", x.answers(0, 0), ToldOver.STATE);
        check.due("interpreters stay", x.many(1), 1);
        check.due("how tired stays", x.ofInterpreter(0, 1), 4);
        check.due("trace stays", x.trace(), trace);
        check.due("sheets stay", x.cell(1, 0, 1), 300);
        check.due("new ones", x.becomes(0, 0, 1), 9);
    }

    private static void becomes() {
        check.part("promise 3");
        ToldOver x = new ToldOver();
        Check.tongues(x, TWO);
        int[][][] told = {{{9, 3, 0}, {2, 1, 9}}, {{5, 5, 2}, {0, 9, 3}}};
        for (int way = 0; way < 2; way++) {
            for (int word = 0; word < 2; word++) {
                for (int to = 0; to <= 2; to++) {
                    check.due("becomes " + way + word + to, x.becomes(way, word, to), told[way][word][to]);
                }
            }
        }
        check.due("word", x.becomes(2, 2, 0), ToldOver.UNKNOWN);
        check.due("word", x.becomes(0, -1, 0), ToldOver.UNKNOWN);
        check.due("to", x.becomes(2, 0, 3), ToldOver.UNKNOWN);
        check.due("to", x.becomes(0, 0, -1), ToldOver.UNKNOWN);
        check.due("way", x.becomes(2, 0, 0), ToldOver.OUTSIDE);
        check.due("way", x.becomes(-1, 0, 0), ToldOver.OUTSIDE);
        check.due("extremes", x.becomes(MIN, MAX, MIN), ToldOver.UNKNOWN);
        Check.tongues(x, "w3;444;930;001;b;100;010;093");
        check.due("larger ones", x.becomes(0, 2, 3), 11);
        Check.tongues(x, TWO);
        check.due("smaller ones again", x.becomes(0, 0, 2), 0);
        check.due("no third any more", x.becomes(0, 2, 0), ToldOver.UNKNOWN);
    }

    private static void meant() {
        check.part("promise 4");
        ToldOver x = new ToldOver();
        check.due("none", x.meant(5, 0), ToldOver.UNKNOWN);
        Check.tongues(x, "w3;444;048;066;b;100;010;093");
        int[][] meant = {{0, 2, 1}, {0, 1, 1}};
        for (int way = 0; way < 2; way++) {
            for (int word = 0; word < 3; word++) {
                check.due("meant " + way + word, x.meant(way, word), meant[way][word]);
            }
        }
        check.due("word", x.meant(2, 3), ToldOver.UNKNOWN);
        check.due("word", x.meant(0, -1), ToldOver.UNKNOWN);
        check.due("way", x.meant(2, 2), ToldOver.OUTSIDE);
        check.due("way", x.meant(-1, 2), ToldOver.OUTSIDE);
    }

    private static void alike() {
        check.part("promise 5");
        ToldOver x = new ToldOver();
        check.due("none", x.alike(5, 0), ToldOver.UNKNOWN);
        Check.tongues(x, "w4;9000;0900;9111;5052;b;0001;0002;0003;0004");
        int[][] alike = {{12, 0, 9, 5}, {14, 13, 11, 7}};
        for (int way = 0; way < 2; way++) {
            for (int word = 0; word < 4; word++) {
                check.due("alike " + way + word, x.alike(way, word), alike[way][word]);
            }
        }
        check.due("word", x.alike(2, 4), ToldOver.UNKNOWN);
        check.due("word", x.alike(0, -1), ToldOver.UNKNOWN);
        check.due("way", x.alike(2, 3), ToldOver.OUTSIDE);
        check.due("way", x.alike(-1, 3), ToldOver.OUTSIDE);
    }
}
