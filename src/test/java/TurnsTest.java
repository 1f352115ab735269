/** Promises 19 to 23: turn, ofTurn, back, wrong, again. */
public final class TurnsTest {
    private static final Check check = new Check();
    private static final String TONGUES = "w2;75;39;b;84;48", WITNESS = "v;90;09;p0";
    private static final int MIN = Integer.MIN_VALUE, MAX = Integer.MAX_VALUE;

    public static void main(String[] args) {
        turn();
        ofTurn();
        back();
        wrong();
        again();
        check.end("TurnsTest");
    }

    private static ToldOver court() {
        ToldOver x = new ToldOver();
        x.interpreter(0, 0);
        x.interpreter(1, 3);
        Check.tongues(x, TONGUES);
        Check.witness(x, WITNESS);
        return x;
    }

    private static void turn() {
        check.part("promise 19");
        ToldOver x = court();
        check.due("who", x.turn(2, 0, 0, 10, 0), ToldOver.UNKNOWN);
        check.due("who", x.turn(-1, 0, 0, 0, 1), ToldOver.UNKNOWN);
        check.due("word", x.turn(0, 2, 0, 10, 0), ToldOver.UNKNOWN);
        check.due("word", x.turn(0, -1, 0, 0, 1), ToldOver.UNKNOWN);
        check.due("heard", x.turn(0, 0, 2, 10, 0), ToldOver.UNKNOWN);
        check.due("heard", x.turn(0, 0, -1, 0, 1), ToldOver.UNKNOWN);
        check.due("stake", x.turn(0, 0, 0, 10, 1), ToldOver.OUTSIDE);
        check.due("stake", x.turn(0, 0, 0, -1, 1), ToldOver.OUTSIDE);
        check.due("minutes", x.turn(0, 0, 0, 0, 0), ToldOver.OUTSIDE);
        check.due("minutes", x.turn(0, 0, 0, 0, 10), ToldOver.OUTSIDE);
        check.due("many", x.many(3), 0);
        for (int t = 0; t < 6; t++) {
            check.due("turn " + t, x.turn(t % 2, t % 2, 1, t == 0 ? 0 : 9, t == 0 ? 1 : 9), t);
        }
        check.due("many", x.many(3), 6);
        check.due("full", x.turn(0, 0, 0, 0, 1), ToldOver.FULL);
        check.due("outside ahead of full", x.turn(0, 0, 0, 0, 0), ToldOver.OUTSIDE);
        Check.tongues(x, TONGUES);
        check.due("no witness", x.turn(0, 0, 0, 0, 1), ToldOver.STATE);
        check.due("outside ahead of state", x.turn(0, 0, 0, 0, 0), ToldOver.OUTSIDE);
        check.due("none", x.many(3), 0);
    }

    private static void ofTurn() {
        check.part("promise 20");
        ToldOver x = court();
        x.turn(0, 0, 0, 5, 3);
        x.turn(0, 1, 0, 9, 9);
        x.turn(1, 1, 1, 0, 1);
        // By the TRAINED one 99 * 108 * 90 times he had said 1, 9 * 108 * 18 times 0.
        int[][] parts = {{0, 0, 0, 5, 3, 736}, {0, 1, 0, 9, 9, 400}, {1, 1, 1, 0, 1, 982}};
        for (int t = 0; t < 3; t++) {
            for (int what = 0; what < 6; what++) {
                check.due("ofTurn " + t + what, x.ofTurn(t, what), parts[t][what]);
            }
        }
        check.due("truth in thousandths of said", x.ofTurn(2, 5),
                1000 * x.said(1, 1, 1, 0) / x.said(1, 1, 1, 1));
        x.tire(0, 9);
        check.due("stays", x.ofTurn(0, 5), 736);
        check.due("none", x.ofTurn(3, 6), ToldOver.UNKNOWN);
        check.due("none", x.ofTurn(-1, 0), ToldOver.UNKNOWN);
        check.due("what", x.ofTurn(2, 6), ToldOver.OUTSIDE);
        check.due("what", x.ofTurn(2, -1), ToldOver.OUTSIDE);
        check.due("extremes", x.ofTurn(MAX, MIN), ToldOver.UNKNOWN);
        Check.tongues(x, "w2;90;09;b;90;09");
        Check.witness(x, "v;90;09;p0");
        check.due("never heard", x.turn(0, 0, 1, 1, 1), 0);
        check.due("truth of it", x.ofTurn(0, 5), 0);
        check.due("sure", x.turn(0, 0, 0, 1, 1), 1);
        check.due("truth of it", x.ofTurn(1, 5), 1000);
    }

    private static void back() {
        check.part("promise 21");
        ToldOver x = court();
        check.due("none of none", x.back(0), 0);
        check.due("one of none", x.back(1), ToldOver.OUTSIDE);
        for (int t = 0; t < 5; t++) {
            x.turn(0, 0, 0, t, 1 + t);
        }
        check.due("below", x.back(-1), ToldOver.OUTSIDE);
        check.due("beyond", x.back(6), ToldOver.OUTSIDE);
        check.due("extremes", x.back(MIN), ToldOver.OUTSIDE);
        check.due("extremes", x.back(MAX), ToldOver.OUTSIDE);
        check.due("none", x.back(0), 5);
        check.due("two", x.back(2), 3);
        check.due("the third stays", x.ofTurn(2, 3), 2);
        check.due("the fourth is gone", x.ofTurn(3, 3), ToldOver.UNKNOWN);
        check.due("the next", x.turn(1, 1, 1, 8, 8), 3);
        check.due("its stake", x.ofTurn(3, 3), 8);
        check.due("all", x.back(4), 0);
    }

    private static void wrong() {
        check.part("promise 22");
        ToldOver x = court();
        check.share("none", x.wrong(0, 0), x.wrong(0, 1), 0, 1);
        check.share("none, by 1", x.wrong(1, 0), x.wrong(1, 1), 1, 1);
        x.turn(0, 0, 0, 5, 3);
        x.turn(0, 0, 1, 5, 3);
        x.turn(0, 1, 0, 9, 9);
        check.share("by 0", x.wrong(0, 0), x.wrong(0, 1), 0, 1);
        check.share("by 1", x.wrong(1, 0), x.wrong(1, 1), 99, 625);
        check.share("by 2", x.wrong(2, 0), x.wrong(2, 1), 441, 625);
        check.share("by 3", x.wrong(3, 0), x.wrong(3, 1), 1, 1);
        check.share("by 7", x.wrong(7, 0), x.wrong(7, 1), 1, 1);
        check.due("k", x.wrong(-1, 0), ToldOver.LOST);
        check.due("k", x.wrong(8, 0), ToldOver.LOST);
        check.due("which", x.wrong(0, 2), ToldOver.LOST);
        check.due("which", x.wrong(0, -1), ToldOver.LOST);
        x.back(3);
        for (int t = 0; t < 6; t++) {
            x.turn(0, 1, 0, 1, 1);
        }
        // Six of 2/5 each: 3/5 to the 6th, and all but 2/5 to the 6th.
        check.share("six by 1", x.wrong(1, 0), x.wrong(1, 1), 729, 15625);
        check.share("six by 6", x.wrong(6, 0), x.wrong(6, 1), 15561, 15625);
        check.share("six by 7", x.wrong(7, 0), x.wrong(7, 1), 1, 1);
        x.back(6);
        for (int t = 0; t < 6; t++) {
            x.turn(0, 0, 0, 1, 1);
        }
        // 264/1000 is 33/125: 125 to the 6th still fits.
        check.share("six by 1", x.wrong(1, 0), x.wrong(1, 1), 1291467969L, 3814697265625L);
    }

    private static void again() {
        check.part("promise 23");
        ToldOver x = court();
        check.due("none", x.again(60), 0);
        check.due("below", x.again(-1), ToldOver.OUTSIDE);
        check.due("beyond", x.again(61), ToldOver.OUTSIDE);
        x.turn(0, 0, 0, 5, 3);
        x.turn(0, 1, 0, 2, 2);
        x.turn(0, 0, 0, 5, 4);
        x.turn(0, 1, 0, 0, 1);
        // They are worth 1320, 1200, 1320 and 0.
        int[] sets = {0, 0, 2, 1, 1, 3, 3, 5, 5, 7};
        for (int m = 0; m < sets.length; m++) {
            check.due("again " + m, x.again(m), sets[m]);
        }
        check.due("again 60", x.again(60), 7);
        x.back(4);
        x.turn(0, 0, 0, 5, 3);
        x.turn(0, 0, 0, 5, 3);
        check.due("of several the least as bits", x.again(3), 1);
        check.due("both", x.again(6), 3);
        x.back(2);
        x.turn(0, 0, 0, 5, 4);
        x.turn(0, 0, 0, 5, 3);
        check.due("of several the fewest minutes", x.again(4), 2);
        x.back(2);
        x.turn(0, 0, 0, 5, 1);
        x.turn(0, 1, 0, 3, 1);
        check.due("what lacks to 1000 counts, not the stake alone", x.again(1), 2);
    }
}
