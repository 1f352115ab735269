/** Promises 6 to 11: interpreter, ofInterpreter, tire, carries, returns, hands. */
public final class InterpretersTest {
    private static final Check check = new Check();
    private static final int MIN = Integer.MIN_VALUE, MAX = Integer.MAX_VALUE;

    public static void main(String[] args) {
        interpreter();
        ofInterpreter();
        tire();
        carries();
        returns();
        hands();
        handsRefused();
        check.end("InterpretersTest");
    }

    private static void interpreter() {
        check.part("promise 6");
        ToldOver x = new ToldOver();
        check.due("kind", x.interpreter(3, 0), ToldOver.OUTSIDE);
        check.due("kind", x.interpreter(-1, 0), ToldOver.OUTSIDE);
        check.due("tired", x.interpreter(0, 10), ToldOver.OUTSIDE);
        check.due("tired", x.interpreter(0, -1), ToldOver.OUTSIDE);
        check.due("none yet", x.many(1), 0);
        check.due("first", x.interpreter(2, 9), 0);
        check.due("second", x.interpreter(0, 0), 1);
        check.due("third", x.interpreter(1, 5), 2);
        check.due("fourth", x.interpreter(1, 5), 3);
        check.due("fifth", x.interpreter(1, 5), ToldOver.FULL);
        check.due("outside ahead of full", x.interpreter(1, 10), ToldOver.OUTSIDE);
        check.due("many", x.many(1), 4);
    }

    private static void ofInterpreter() {
        check.part("promise 7");
        ToldOver x = new ToldOver();
        x.interpreter(2, 9);
        x.interpreter(0, 4);
        check.due("kind", x.ofInterpreter(0, 0), 2);
        check.due("tired", x.ofInterpreter(0, 1), 9);
        check.due("kind", x.ofInterpreter(1, 0), 0);
        check.due("tired", x.ofInterpreter(1, 1), 4);
        check.due("what", x.ofInterpreter(1, 2), ToldOver.OUTSIDE);
        check.due("what", x.ofInterpreter(1, -1), ToldOver.OUTSIDE);
        check.due("none", x.ofInterpreter(2, 2), ToldOver.UNKNOWN);
        check.due("none", x.ofInterpreter(-1, 0), ToldOver.UNKNOWN);
        check.due("extremes", x.ofInterpreter(MAX, MIN), ToldOver.UNKNOWN);
    }

    private static void tire() {
        check.part("promise 8");
        ToldOver x = new ToldOver();
        check.due("none", x.tire(0, 10), ToldOver.UNKNOWN);
        x.interpreter(1, 7);
        check.due("what was", x.tire(0, 0), 7);
        check.due("what was", x.tire(0, 9), 0);
        check.due("beyond", x.tire(0, 10), ToldOver.OUTSIDE);
        check.due("below", x.tire(0, -1), ToldOver.OUTSIDE);
        check.due("as tired", x.ofInterpreter(0, 1), 9);
        check.due("none", x.tire(1, 1), ToldOver.UNKNOWN);
        check.due("none", x.tire(-1, 1), ToldOver.UNKNOWN);
    }

    private static void carries() {
        check.part("promise 9");
        ToldOver x = new ToldOver();
        x.interpreter(0, 0);
        x.interpreter(1, 3);
        x.interpreter(2, 9);
        check.due("no words", x.carries(0, 0, 0, 0), ToldOver.UNKNOWN);
        Check.tongues(x, "w2;93;21;b;55;09");
        int[][][][] times = {
            {{{108, 36, 0}, {24, 12, 108}}, {{60, 60, 24}, {0, 108, 36}}},
            {{{99, 9, 36}, {27, 0, 117}}, {{72, 18, 54}, {0, 81, 63}}},
            {{{33, 3, 108}, {36, 0, 108}}, {{30, 6, 108}, {0, 36, 108}}}
        };
        for (int who = 0; who < 3; who++) {
            for (int k = 0; k < 12; k++) {
                int way = k / 6;
                int word = k / 3 % 2;
                int to = k % 3;
                check.due("carries " + who + way + word + to,
                        x.carries(who, way, word, to), times[who][way][word][to]);
            }
        }
        x.tire(0, 9);
        check.due("tired", x.carries(0, 0, 0, 0), 27);
        check.due("left out by one who is tired", x.carries(0, 0, 0, 2), 108);
        check.due("who", x.carries(3, 2, 0, 0), ToldOver.UNKNOWN);
        check.due("who", x.carries(-1, 0, 0, 0), ToldOver.UNKNOWN);
        check.due("word", x.carries(0, 2, 2, 0), ToldOver.UNKNOWN);
        check.due("to", x.carries(0, 2, 0, 3), ToldOver.UNKNOWN);
        check.due("to", x.carries(0, 0, 0, -1), ToldOver.UNKNOWN);
        check.due("way", x.carries(0, 2, 0, 2), ToldOver.OUTSIDE);
        check.due("way", x.carries(0, -1, 0, 2), ToldOver.OUTSIDE);
        // Each of 1, 3, 5 is halved and cut by itself: 0, 1, 2 stay and 6 go to what is meant.
        Check.tongues(x, "w4;1353;1000;1000;1000;b;1000;1000;1000;1000");
        x.tire(1, 0);
        check.due("cut", x.carries(1, 0, 0, 0), 0);
        check.due("cut", x.carries(1, 0, 0, 1), 12);
        check.due("meant", x.carries(1, 0, 0, 2), 120);
        check.due("cut", x.carries(1, 0, 0, 3), 12);
        check.due("left out", x.carries(1, 0, 0, 4), 0);
        check.due("a trained one leaves out as told", x.carries(1, 0, 1, 4), 132);
        x.tire(2, 0);
        check.due("a sworn one leaves out nothing", x.carries(2, 0, 1, 4), 0);
        check.due("but says what is meant", x.carries(2, 0, 1, 0), 144);
    }

    private static void returns() {
        check.part("promise 10");
        ToldOver x = new ToldOver();
        x.interpreter(0, 0);
        x.interpreter(2, 9);
        check.due("no words", x.returns(0, 0, 0), ToldOver.UNKNOWN);
        Check.tongues(x, "w2;93;21;b;55;09");
        // 9 * 5 against 9 * 5 + 3 * 9; 5 * 9 + 5 * 2 against 5 * 3 + 5 * 1
        check.due("court's 0", x.returns(0, 0, 0), 1);
        check.due("court's 1", x.returns(0, 0, 1), 1);
        check.due("witness's 0", x.returns(0, 1, 0), 0);
        check.due("witness's 1", x.returns(0, 1, 1), 0);
        // a sworn one: 11 * 10 against 11 * 2 + 1 * 12
        check.due("sworn, court's 0", x.returns(1, 0, 0), 0);
        check.due("who", x.returns(2, 2, 0), ToldOver.UNKNOWN);
        check.due("who", x.returns(-1, 0, 0), ToldOver.UNKNOWN);
        check.due("word", x.returns(0, 2, 2), ToldOver.UNKNOWN);
        check.due("word", x.returns(0, 2, -1), ToldOver.UNKNOWN);
        check.due("way", x.returns(0, 2, 0), ToldOver.OUTSIDE);
        check.due("way", x.returns(0, -1, 0), ToldOver.OUTSIDE);
        Check.tongues(x, "w3;011;100;100;b;011;022;022");
        check.due("of several the least", x.returns(0, 0, 0), 1);
        check.due("left out is no word", x.returns(0, 0, 1), 1);
    }

    private static void hands() {
        check.part("promise 11");
        ToldOver x = new ToldOver();
        x.interpreter(0, 0);
        x.interpreter(2, 9);
        Check.tongues(x, "w2;93;21;b;55;09");
        Check.row(x, 0, 1, 0, 0, 1, 1, 1, 1, 1, 1, 1);
        hand(x, 0, 0, 0, 1, 3, 4);
        hand(x, 0, 0, 1, 1, 1, 4);
        hand(x, 0, 0, 2, 1, 0, 1);
        hand(x, 0, 1, 2, 1, 3, 4);
        hand(x, 0, 0, 0, 2, 5, 16);
        hand(x, 0, 0, 1, 2, 1, 2);
        hand(x, 0, 0, 2, 2, 3, 16);
        // 1 to court's 1 by KIN is never 0; then SWORN, TIRED by 9: 1 to witness's 0 is 36 of 144.
        hand(x, 1, 1, 0, 2, 1, 8);
        hand(x, 1, 1, 1, 2, 1, 16);
        hand(x, 1, 1, 2, 2, 13, 16);
        long lower = 1;
        for (int n = 0; n < 8; n++) {
            lower *= 4;
        }
        // 8 by SWORN ones who leave out three of four: what is left is a 4 to the 8th of all.
        check.share("all left", left(x, 0), left(x, 1), 1, lower);
        check.due("LEFT OUT stays so", x.hands(0, 0, 2, 0, 1, 1, 8, 1), x.hands(0, 1, 2, 0, 1, 1, 8, 1));
    }

    private static long left(ToldOver x, int which) {
        Check.tongues(x, "w2;90;09;b;90;09");
        Check.row(x, 1, 2, 1, 1, 1, 1, 1, 1, 1, 1);
        return x.hands(1, 1, 1, 1, 2, 0, 8, which);
    }

    private static void hand(ToldOver x, int way, int word, int to, int n, long upper, long lower) {
        check.share("hands " + way + word + to + " by " + n,
                x.hands(way, word, to, 0, 1, 0, n, 0), x.hands(way, word, to, 0, 1, 0, n, 1), upper, lower);
        check.due("fault", x.fault(), 0);
    }

    private static void handsRefused() {
        check.part("promise 11, refusals and faults");
        ToldOver x = new ToldOver();
        x.interpreter(0, 0);
        lost(x, "no words", 0, 0, 0, 0, 0, 0, 1, 0, 0);
        Check.tongues(x, "w2;93;21;b;55;09");
        lost(x, "null", 0, 0, 0, 0, 0, 0, 1, 0, 1);
        lost(x, "null ahead of size", 0, 0, 0, 0, 0, -1, -1, 7, 1);
        Check.row(x, 0, 1, 0, 0, 0, 0, 0, 0, 0, 0, 0, 1);
        lost(x, "word", 0, 2, 0, 0, 0, 0, 1, 0, 0);
        lost(x, "to", 0, 0, 3, 0, 0, 0, 1, 0, 0);
        lost(x, "sheet", 0, 0, 0, 4, 0, 0, 1, 0, 0);
        lost(x, "sheet", 0, 0, 0, -1, 0, 0, 1, 0, 0);
        lost(x, "way", 2, 0, 0, 0, 0, 0, 1, 0, 0);
        lost(x, "sort", 0, 0, 0, 0, 3, 0, 1, 0, 0);
        lost(x, "cast", 0, 0, 0, 0, 0, -1, -1, 7, 2);
        lost(x, "size", 0, 0, 0, 0, 1, -1, -1, 7, 4);
        lost(x, "index", 0, 0, 0, 0, 1, -1, 1, 7, 3);
        lost(x, "index", 0, 0, 0, 0, 1, 5, 6, 7, 3);
        lost(x, "index of none", 0, 0, 0, 0, 1, 11, 0, 7, 3);
        lost(x, "index that wraps", 0, 0, 0, 0, 1, MAX, MAX, 7, 3);
        lost(x, "none", 0, 0, 0, 0, 1, 10, 0, 0, 0);
        lost(x, "too many", 0, 0, 0, 0, 1, 0, 9, 0, 0);
        lost(x, "who", 0, 0, 0, 0, 1, 9, 1, 0, 0);
        lost(x, "who, the last of them", 0, 0, 0, 0, 1, 7, 3, 0, 0);
        lost(x, "which", 0, 0, 0, 0, 1, 0, 8, 2, 0);
        lost(x, "which", 0, 0, 0, 0, 1, 0, 8, -1, 0);
        check.due("just so", x.hands(0, 0, 2, 0, 1, 1, 1, 1), 1);
        x.put(0, 0, -1);
        lost(x, "who is below 0", 0, 0, 0, 0, 1, 0, 1, 0, 0);
    }

    private static void lost(ToldOver x, String what, int... a) {
        check.due(what, x.hands(a[0], a[1], a[2], a[3], a[4], a[5], a[6], a[7]), ToldOver.LOST);
        check.due("fault of " + what, x.fault(), a[8]);
    }
}
