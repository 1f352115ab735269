/** The edges that "Terms" names: of several the least, cut, at most and at least, wrapped, as told for 2 and 4 to 7. */
public final class TermEdgesTest {
    private static final Check check = new Check();
    private static final int MIN = Integer.MIN_VALUE, MAX = Integer.MAX_VALUE;
    private static final String SAME = "w2;90;09;b;90;09";

    public static void main(String[] args) {
        meant();
        alike();
        halves();
        tired();
        returns();
        hands();
        shares();
        turns();
        truth();
        wrong();
        again();
        shiftsAtMostAndAtLeast();
        shiftsOfManyMinutes();
        shiftsOneAfterAnother();
        booth();
        boothsOneAfterAnother();
        sixWords();
        twoWordsBehindSix();
        cutToSort();
        trace();
        bodies();
        check.end("TermEdgesTest");
    }

    private static ToldOver crew(String tongues, int... kindsAndTired) {
        ToldOver x = new ToldOver();
        for (int k = 0; k + 1 < kindsAndTired.length; k += 2) {
            x.interpreter(kindsAndTired[k], kindsAndTired[k + 1]);
        }
        check.holds("TONGUES", Check.tongues(x, tongues) > 0);
        return x;
    }

    private static void meant() {
        check.part("1, MEANT: of several the least");
        ToldOver x = crew("w2;65;66;b;56;01");
        check.due("65", x.meant(0, 0), 0);
        check.due("66", x.meant(0, 1), 0);
        check.due("56", x.meant(1, 0), 1);
        check.due("01", x.meant(1, 1), 1);
        x = crew("w3;444;345;066;b;660;651;156");
        int[][] due = {{0, 2, 1}, {0, 0, 2}};
        for (int k = 0; k < 6; k++) {
            check.due("meant " + k / 3 + k % 3, x.meant(k / 3, k % 3), due[k / 3][k % 3]);
        }
        x = crew("w6;222222;222221;122222;112222;111122;111112;b;000001;000011;000111;001111;011111;111111");
        int[] last = {0, 0, 1, 2, 4, 5};
        for (int word = 0; word < 6; word++) {
            check.due("of six " + word, x.meant(0, word), last[word]);
            check.due("home " + word, x.meant(1, word), 5 - word);
        }
    }

    private static void alike() {
        check.part("4, ALIKE: without it");
        ToldOver x = crew("w6;100000;100000;100000;100000;100000;100000"
                + ";b;100000;010000;001000;000100;000010;000001");
        for (int word = 0; word < 6; word++) {
            check.due("all but it", x.alike(0, word), 63 - (1 << word));
            check.due("none", x.alike(1, word), 0);
        }
        x = crew("w2;66;56;b;66;65");
        check.due("not alike by one", x.alike(0, 0), 0);
        check.due("alike by a tie", x.alike(1, 0), 2);
    }

    private static void halves() {
        check.part("2, half as often (cut)");
        int[] half = {0, 0, 1, 1, 2, 2, 3};
        for (int d = 0; d <= 6; d++) {
            ToldOver x = crew("w2;6" + d + ";10;b;10;10", 0, 0, 1, 0, 2, 0);
            check.due("KIN, " + d, x.carries(0, 0, 0, 1), 12 * d);
            check.due("KIN, what is MEANT", x.carries(0, 0, 0, 0), 72);
            check.due("KIN, LEFT OUT", x.carries(0, 0, 0, 2), 12 * (6 - d));
            check.due("TRAINED, " + d, x.carries(1, 0, 0, 1), 12 * half[d]);
            check.due("TRAINED, what is MEANT", x.carries(1, 0, 0, 0), 12 * (6 + d - half[d]));
            check.due("TRAINED, LEFT OUT", x.carries(1, 0, 0, 2), 12 * (6 - d));
            check.due("SWORN, " + d, x.carries(2, 0, 0, 1), 12 * half[d]);
            check.due("SWORN, what is MEANT", x.carries(2, 0, 0, 0), 12 * (12 - half[d]));
            check.due("SWORN, LEFT OUT", x.carries(2, 0, 0, 2), 0);
        }
        ToldOver x = crew("w2;56;66;b;01;11", 1, 0, 2, 0);
        check.due("MEANT is the second", x.carries(0, 0, 0, 0), 24);
        check.due("MEANT is the second", x.carries(0, 0, 0, 1), 108);
        check.due("MEANT is the first by a tie", x.carries(0, 0, 1, 0), 108);
        check.due("MEANT is the first by a tie", x.carries(0, 0, 1, 1), 36);
        check.due("one is cut to none", x.carries(0, 1, 1, 1), 0);
        check.due("one and what that saves", x.carries(0, 1, 1, 0), 24);
        check.due("eleven LEFT OUT stay", x.carries(0, 1, 0, 2), 132);
        check.due("eleven LEFT OUT go to MEANT", x.carries(1, 1, 0, 1), 144);
    }

    private static void tired() {
        check.part("2, TIRED by 0 .. 9");
        ToldOver x = crew(SAME, 0, 0, 1, 0, 2, 0);
        for (int t = 0; t <= 9; t++) {
            for (int who = 0; who < 3; who++) {
                x.tire(who, t);
                int told = who == 2 ? 12 : 9;
                check.due("carried by " + who + ", TIRED by " + t, x.carries(who, 0, 1, 1), told * (12 - t));
                check.due("LEFT OUT", x.carries(who, 0, 1, 2), 144 - told * (12 - t));
                check.due("never so", x.carries(who, 0, 1, 0), 0);
            }
        }
    }

    private static void returns() {
        check.part("4, RETURNS: of several the least");
        check.due("50 and 50", crew("w2;55;55;b;55;55", 0, 0).returns(0, 0, 0), 0);
        check.due("50 and 45", crew("w2;55;55;b;55;54", 0, 0).returns(0, 0, 0), 0);
        check.due("45 and 50", crew("w2;55;55;b;55;45", 0, 0).returns(0, 0, 0), 1);
        check.due("as many, TIRED", crew("w2;55;55;b;55;55", 0, 9).returns(0, 1, 1), 0);
        check.due("once of 144 times", crew("w2;01;01;b;10;01", 0, 9).returns(0, 0, 0), 1);
        check.due("the last of six", crew(six("000001"), 0, 9).returns(0, 0, 0), 5);
        check.due("six alike", crew(six("222222"), 0, 0).returns(0, 0, 5), 0);
        check.due("a TRAINED one", crew("w2;65;56;b;65;56", 1, 0).returns(0, 0, 1), 1);
    }

    private static String six(String line) {
        return "w6" + (";" + line).repeat(6) + ";b" + (";" + line).repeat(6);
    }

    private static void hands() {
        check.part("4, HANDS: 1 to 8");
        ToldOver x = crew("w2;10;01;b;10;01", 0, 1, 2, 0, 2, 9);
        Check.row(x, 0, 0, 0, 0, 0, 0, 0, 0, 0, 0, 0);
        hand(x, 1, 0, 11, 144);
        hand(x, 1, 1, 0, 1);
        hand(x, 1, 2, 133, 144);
        hand(x, 2, 0, 121, 20736);
        hand(x, 8, 0, 214358881L, 184884258895036416L);
        hand(x, 8, 1, 0, 1);
        hand(x, 8, 2, 184884258680677535L, 184884258895036416L);
        hand(x, 0, 0, ToldOver.LOST, ToldOver.LOST);
        hand(x, 9, 0, ToldOver.LOST, ToldOver.LOST);
        Check.row(x, 0, 0, 1, 1, 1, 1, 1, 1, 1, 1, 1);
        hand(x, 8, 0, 1, 1);
        hand(x, 8, 2, 0, 1);
        hand(x, 9, 0, ToldOver.LOST, ToldOver.LOST);
        Check.row(x, 0, 0, 2, 2, 2, 2, 2, 2, 2, 2, 2);
        hand(x, 7, 0, 1, 16384);
        hand(x, 8, 0, 1, 65536);
        hand(x, 8, 2, 65535, 65536);
        Check.row(x, 0, 0, 3);
        hand(x, 1, 0, ToldOver.LOST, ToldOver.LOST);
        x.interpreter(0, 0);
        hand(x, 1, 0, 1, 12);
        Check.row(x, 0, 0, 4);
        hand(x, 1, 0, ToldOver.LOST, ToldOver.LOST);
        Check.row(x, 0, 2, -1, 256, MIN, MAX);
        for (int i = 0; i < 4; i++) {
            check.due("no INTERPRETER", x.hands(0, 0, 0, 0, 2, i, 1, 0), ToldOver.LOST);
        }
        Check.row(x, 0, 0, 256);
        hand(x, 1, 0, 11, 144);
    }

    private static void hand(ToldOver x, int n, int to, long upper, long lower) {
        check.share(n + " hands to " + to,
                x.hands(0, 0, to, 0, 0, 0, n, 0), x.hands(0, 0, to, 0, 0, 0, n, 1), upper, lower);
    }

    private static void shares() {
        check.part("shares: none and all");
        ToldOver x = crew("w2;90;09;b;90;90", 2, 0, 2, 9);
        Check.witness(x, "v;93;39;p0");
        check.share("always 0", x.heard(0, 1, 0, 0), x.heard(0, 1, 0, 1), 1, 1);
        check.share("never 1", x.heard(0, 1, 1, 0), x.heard(0, 1, 1, 1), 0, 1);
        check.share("never nothing", x.heard(0, 1, 2, 0), x.heard(0, 1, 2, 1), 0, 1);
        check.share("always over", x.over(0, 1, 0), x.over(0, 1, 1), 1, 1);
        check.share("TIRED by 9", x.heard(1, 1, 0, 0), x.heard(1, 1, 0, 1), 1, 16);
        check.share("nothing", x.heard(1, 1, 2, 0), x.heard(1, 1, 2, 1), 15, 16);
        check.due("reached always", x.reached(0, 1, 0, 0), 1);
        check.due("1 is never heard", x.reached(0, 1, 1, 0), ToldOver.LOST);
        Check.witness(x, "v;10;01;p0");
        // TIRED by 9 a quarter is carried, a twelfth answered, a quarter carried home.
        check.share("least of all", x.heard(1, 0, 0, 0), x.heard(1, 0, 0, 1), 1, 192);
    }

    private static ToldOver trial(String tongues, String witness) {
        ToldOver x = crew(tongues, 0, 0);
        check.due("WITNESS", Check.witness(x, witness), 1);
        return x;
    }

    private static void turns() {
        check.part("5, TURNS: 6 at most");
        ToldOver x = trial(SAME, "v;90;09;p0");
        for (int t = 0; t < 6; t++) {
            check.due("TURN", x.turn(0, t % 2, 1 - t % 2, t % 2 * 9, 1 + t % 2 * 8), t);
        }
        check.due("a seventh", x.turn(0, 0, 0, 0, 1), ToldOver.FULL);
        check.due("least STAKE", x.ofTurn(4, 3), 0);
        check.due("most STAKE", x.ofTurn(5, 3), 9);
        check.due("fewest MINUTES", x.ofTurn(4, 4), 1);
        check.due("most MINUTES", x.ofTurn(5, 4), 9);
        check.due("STAKE beyond", x.turn(0, 0, 0, 10, 1), ToldOver.OUTSIDE);
        check.due("MINUTES beyond", x.turn(0, 0, 0, 0, 10), ToldOver.OUTSIDE);
        check.due("no MINUTES", x.turn(0, 0, 0, 0, 0), ToldOver.OUTSIDE);
    }

    private static void truth() {
        check.part("5, TRUTH: cut, and 0 where that could not be heard");
        truth(SAME, "v;90;09;p0", 0, 0, 1000);
        truth(SAME, "v;90;09;p0", 0, 1, 0);
        truth(SAME, "v;91;09;p0", 0, 1, 1000);
        // Said 0 and heard 48, said 1 and heard so 24 of all.
        truth("w2;90;09;b;80;48", "v;66;66;p0", 0, 0, 666);
        // 135 * 9 against 3: 997 and a half.
        truth("w2;90;09;b;90;19", "v;91;91;p9", 0, 0, 997);
        // Either of both is heard as 1 now and then, but MEANT by none.
        truth("w2;90;09;b;93;93", "v;66;66;p0", 0, 1, 0);
        truth("w2;90;09;b;19;90", "v;19;91;p0", 1, 1, 1000);
        // 0 nine times and heard as 1 once, 1 once and heard so nine times.
        truth("w2;90;09;b;91;19", "v;19;91;p0", 1, 1, 500);
    }

    private static void truth(String tongues, String witness, int word, int heard, int due) {
        ToldOver x = trial(tongues, witness);
        check.due("TURN", x.turn(0, word, heard, 1, 1), 0);
        check.due("TRUTH by " + tongues + " " + witness, x.ofTurn(0, 5), due);
        x.tire(0, 9);
        check.due("TRUTH, when he is TIRED", x.ofTurn(0, 5), due);
    }

    private static void wrong() {
        check.part("5, WRONG: fewer than k");
        ToldOver x = trial(SAME, "v;90;09;p0");
        six(x, 0, 0);
        wrong(x, 0, 0, 1);
        wrong(x, 6, 0, 1);
        wrong(x, 7, 1, 1);
        x.back(6);
        six(x, 1, 0);
        wrong(x, 0, 0, 1);
        wrong(x, 1, 1, 1);
        x.back(6);
        six(x, 0, 1);
        wrong(x, 0, 0, 1);
        wrong(x, 1, 1, 1);
        x.back(6);
        wrong(x, 0, 0, 1);
        wrong(x, 1, 1, 1);
        wrong(x, 8, ToldOver.LOST, ToldOver.LOST);
        wrong(x, -1, ToldOver.LOST, ToldOver.LOST);
        x.turn(0, 0, 0, 0, 1);
        wrong(x, 1, 0, 1);
        wrong(x, 2, 1, 1);
        x = trial("w2;90;09;b;80;48", "v;66;66;p0");
        six(x, 0, 0);
        wrong(x, 1, 21691961596369L, 15625000000000000L);
        x = trial("w2;90;09;b;90;19", "v;91;91;p9");
        six(x, 0, 0);
        wrong(x, 1, 729, 1000000000000000000L);
        wrong(x, 7, 1, 1);
    }

    private static void six(ToldOver x, int word, int heard) {
        for (int t = 0; t < 6; t++) {
            check.due("TURN", x.turn(0, word, heard, 9, 9), t);
        }
    }

    private static void wrong(ToldOver x, int k, long upper, long lower) {
        check.share("wrong by " + k, x.wrong(k, 0), x.wrong(k, 1), upper, lower);
    }

    private static void again() {
        check.part("5, AGAIN: the most, the fewest MINUTES, the least as bits");
        ToldOver x = trial(SAME, "v;90;09;p0");
        six(x, 0, 1);
        again(x, 0, 0);
        again(x, 8, 0);
        again(x, 9, 1);
        again(x, 17, 1);
        again(x, 18, 3);
        again(x, 53, 31);
        again(x, 54, 63);
        again(x, 60, 63);
        again(x, 61, ToldOver.OUTSIDE);
        again(x, -1, ToldOver.OUTSIDE);
        again(x, MAX, ToldOver.OUTSIDE);
        again(x, MIN, ToldOver.OUTSIDE);
        again(five(2, 5, 1, 2, 1, 2), 5, 6);
        again(five(2, 5, 1, 3, 1, 2), 5, 1);
        again(five(1, 3, 1, 2, 2, 5), 5, 3);
        again(five(1, 2, 1, 2, 2, 5), 5, 3);
        again(five(1, 4, 1, 4, 1, 4), 4, 1);
        again(five(1, 4, 1, 4, 1, 3), 4, 4);
        again(five(1, 4, 2, 4, 1, 4), 4, 2);
        again(five(0, 1, 1, 1, 0, 1), 60, 2);
        again(five(1, 1, 1, 1, 1, 1), 0, 0);
        x = trial("w2;90;09;b;90;19", "v;91;91;p9");
        x.turn(0, 0, 0, 1, 9);
        x.turn(0, 0, 0, 0, 1);
        again(x, 9, 1);
        x = trial(SAME, "v;90;09;p0");
        x.turn(0, 0, 0, 9, 1);
        again(x, 60, 0);
    }

    /** TURNS of which TRUTH is 0, by STAKE and MINUTES. */
    private static ToldOver five(int... stakesAndMinutes) {
        ToldOver x = trial(SAME, "v;90;09;p0");
        for (int k = 0; k < stakesAndMinutes.length; k += 2) {
            x.turn(0, 0, 1, stakesAndMinutes[k], stakesAndMinutes[k + 1]);
        }
        return x;
    }

    private static void again(ToldOver x, int minutes, int due) {
        check.due("again in " + minutes, x.again(minutes), due);
    }

    private static void shiftsAtMostAndAtLeast() {
        check.part("6, SHIFTS: 9 at most, 0 at least, of several the first");
        row(8, 8, 2, 9, 17, 0, 0);
        row(9, 9, 2, 9, 18, 0, 0);
        row(9, 9, 3, 9, 27, 0, 0, 0);
        row(9, 8, 3, 9, 26, 1, 1, 1);
        row(8, 9, 3, 9, 26, 0, 0, 0);
        row(9, 9, 3, 0, 25, 0, 0, 1);
        row(1, 1, 2, 0, 1, 0, 1);
        row(0, 0, 2, 0, 0, 0, 1);
        row(0, 0, 2, 1, 1, 0, 0);
        row(0, 0, 3, 0, 0, 0, 1, 0);
        row(0, 1, 2, 0, 0, 0, 1);
        row(0, 2, 2, 0, 1, 0, 0);
        row(9, 0, 1, 9, 0, 1);
        row(0, 9, 1, 9, 0, 0);
        row(5, 5, 1, 9, 5, 0);
        row(5, 4, 1, 9, 4, 1);
        ToldOver x = crew(SAME, 0, 9, 2, 0);
        check.due("by both", x.shifts(0, 1, 2, 1, -1), 1);
        check.due("the other way round", x.shifts(1, 0, 2, 1, 0), 0);
        check.due("as TIRED as before", x.ofInterpreter(0, 1) * 10 + x.ofInterpreter(1, 1), 90);
        x.tire(0, 0);
        check.due("by who is less TIRED now", x.shifts(0, 1, 2, 0, -1), 0);
        x.tire(1, 9);
        check.due("by the other one now", x.shifts(0, 1, 2, 0, 0), 0);
    }

    private static void row(int first, int second, int m, int c, int cost, int... who) {
        ToldOver x = crew(SAME, 0, first, 0, second);
        String of = " of " + first + " and " + second + " for " + m + " by " + c;
        check.due("cost" + of, x.shifts(0, 1, m, c, -1), cost);
        for (int q = 0; q < m; q++) {
            check.due("MINUTE " + q + of, x.shifts(0, 1, m, c, q), who[q]);
        }
        check.due("beyond" + of, x.shifts(0, 1, m, c, m), ToldOver.UNKNOWN);
    }

    private static void shiftsOfManyMinutes() {
        check.part("6, SHIFTS: 40 MINUTES");
        ToldOver x = crew(SAME, 0, 0, 0, 0);
        check.due("in turns", x.shifts(0, 1, 40, 0, -1), 0);
        for (int q = 0; q < 40; q++) {
            check.due("MINUTE " + q, x.shifts(0, 1, 40, 0, q), q % 2);
        }
        check.due("a MINUTE more", x.shifts(0, 1, 41, 0, -1), ToldOver.OUTSIDE);
        int[][] tired = {{0, 0, 9}, {9, 9, 9}, {9, 0, 1}, {0, 9, 5}, {9, 9, 0}, {4, 6, 2}};
        for (int[] t : tired) {
            ToldOver two = crew(SAME, 0, t[0], 2, t[1]);
            Oracle due = new Oracle();
            due.interpreter(0, t[0]);
            due.interpreter(2, t[1]);
            for (int q = -1; q < 40; q++) {
                check.due("MINUTE " + q + " by " + t[2], two.shifts(0, 1, 40, t[2], q), due.shifts(0, 1, 40, t[2], q));
            }
        }
    }

    /** Nothing of what was asked ahead is answered again, where one number alone is another one. */
    private static void shiftsOneAfterAnother() {
        check.part("6, SHIFTS: one after another");
        ToldOver x = crew(SAME, 0, 0, 0, 0, 0, 1, 0, 5);
        check.due("0 and 0 for 2 by 9", x.shifts(0, 1, 2, 9, -1), 1);
        check.due("0 and 1 for 2 by 0", x.shifts(0, 2, 2, 0, -1), 0);
        check.due("0 and 0 for 2 by 1", x.shifts(0, 1, 2, 1, -1), 1);
        check.due("1 and 0 for 2 by 0", x.shifts(2, 0, 2, 0, 0), 1);
        check.due("0 and 1 for 2 by 0", x.shifts(0, 2, 2, 0, 0), 0);
        x.tire(0, 5);
        check.due("5 and 5 for 1 by 1", x.shifts(0, 3, 1, 1, -1), 5);
        check.due("5 and 5 for 2 by 0", x.shifts(0, 3, 2, 0, -1), 9);
        check.due("5 and 5 for 40 by 0, the last", x.shifts(0, 3, 40, 0, 39), 1);
        check.due("5 and 5 for 1 by 1", x.shifts(0, 3, 1, 1, -1), 5);
        check.due("5 and 5 for 1 by 1, the last", x.shifts(0, 3, 1, 1, 0), 0);
        check.due("no second MINUTE", x.shifts(0, 3, 1, 1, 1), ToldOver.UNKNOWN);
    }

    private static void booth() {
        check.part("6, a BOOTH: 1 to 9 cells");
        words(0, 0, 0, 0);
        words(1, 0, 0, 0, 1);
        words(2, 1, 2, 1, 0);
        words(8, 0, 0, 0, 1, 2, 3, 4, 5, 6, 7, 8);
        words(16, 8, 16, 8, 7, 6, 5, 4, 3, 2, 1, 0);
        words(16, 8, 9, 8, 0, 1, 2, 3, 4, 5, 6, 7);
        words(9, 1, 2, 0, 1, 2, 3, 4, 5, 6, 8, 7);
        words(9, 1, 9, 1, 2, 3, 4, 5, 6, 7, 8, 0);
        words(ToldOver.OUTSIDE, ToldOver.OUTSIDE, ToldOver.OUTSIDE, 0, 1, 2, 3, 4, 5, 6, 7, 8, 9);
        words(ToldOver.OUTSIDE, ToldOver.OUTSIDE, ToldOver.OUTSIDE);
        words(ToldOver.OUTSIDE, ToldOver.OUTSIDE, ToldOver.OUTSIDE, 1);
        words(ToldOver.OUTSIDE, ToldOver.OUTSIDE, ToldOver.OUTSIDE, -1);
        words(ToldOver.OUTSIDE, ToldOver.OUTSIDE, ToldOver.OUTSIDE, 0, 0);
        words(ToldOver.OUTSIDE, ToldOver.OUTSIDE, ToldOver.OUTSIDE, 0, 2);
        words(ToldOver.OUTSIDE, ToldOver.OUTSIDE, ToldOver.OUTSIDE, 1, 2);
        words(ToldOver.OUTSIDE, ToldOver.OUTSIDE, ToldOver.OUTSIDE, 0, 1, 2, 3, 4, 5, 6, 7, 9);
        words(ToldOver.OUTSIDE, ToldOver.OUTSIDE, ToldOver.OUTSIDE, 0, 32);
        words(ToldOver.OUTSIDE, ToldOver.OUTSIDE, ToldOver.OUTSIDE, 0, MIN);
        words(ToldOver.OUTSIDE, ToldOver.OUTSIDE, ToldOver.OUTSIDE, 0, MAX);
    }

    private static void words(int end, int held, int behind, int... cells) {
        ToldOver x = new ToldOver();
        Check.row(x, 0, 2, cells);
        check.due("END", x.booth(0, 2, 0, cells.length, 0), end);
        check.due("HELD", x.booth(0, 2, 0, cells.length, 1), held);
        check.due("BEHIND", x.booth(0, 2, 0, cells.length, 2), behind);
        check.due("fault", x.fault(), 0);
    }

    private static void boothsOneAfterAnother() {
        check.part("6, a BOOTH: one after another");
        ToldOver x = new ToldOver();
        Check.row(x, 0, 1, 8, 7, 6, 5, 4, 3, 2, 1, 0, 0, 1, 2, 1, 0);
        int[][] due = {{16, 8, 16}, {0, 0, 0}, {16, 8, 16}, {2, 0, 0}, {2, 1, 2}, {0, 0, 0}};
        int[][] rows = {{0, 9}, {8, 1}, {0, 9}, {9, 3}, {12, 2}, {9, 1}};
        for (int k = 0; k < 18; k++) {
            int[] row = rows[k / 3];
            check.due("BOOTH " + k / 3 + ", " + k % 3, x.booth(0, 1, row[0], row[1], k % 3), due[k / 3][k % 3]);
        }
    }

    /** As many WORDS as there may be, each of which is said by nine of twelve. */
    private static void sixWords() {
        check.part("2 to 5, six WORDS");
        String lines = ";900000;090000;009000;000900;000090;000009";
        ToldOver x = crew("w6" + lines + ";b" + lines, 0, 0);
        check.due("WITNESS", Check.witness(x, "v" + lines + ";p0"), 1);
        for (int word = 0; word < 6; word++) {
            check.share("heard", x.heard(0, word, word, 0), x.heard(0, word, word, 1), 27, 64);
            check.share("nothing", x.heard(0, word, 6, 0), x.heard(0, word, 6, 1), 37, 64);
            check.share("reached", x.reached(0, word, word, 0), x.reached(0, word, word, 1), 1, 1);
            check.share("said", x.said(0, word, word, 0), x.said(0, word, word, 1), 1, 1);
            check.share("over", x.over(0, word, 0), x.over(0, word, 1), 27, 64);
            check.due("heard as another one", x.heard(0, word, 5 - word, 0), 0);
            check.due("ask", x.ask(0, 64 - (1 << word)), word);
            check.due("turn", x.turn(0, word, word, 0, 1), word);
            check.due("TRUTH", x.ofTurn(word, 5), 1000);
            check.due("returns", x.returns(0, 1, word), word);
            check.due("carries", x.carries(0, 1, word, word), 108);
            check.due("LEFT OUT", x.carries(0, 0, word, 6), 36);
            check.due("answers", x.answers(word, word), 108);
            check.due("SILENT", x.answers(word, 6), 36);
        }
        Check.row(x, 0, 0, 0, 0);
        check.share("by two", x.hands(0, 5, 5, 0, 0, 0, 2, 0), x.hands(0, 5, 5, 0, 0, 0, 2, 1), 9, 16);
        check.share("LEFT OUT", x.hands(1, 5, 6, 0, 0, 0, 2, 0), x.hands(1, 5, 6, 0, 0, 0, 2, 1), 7, 16);
        check.due("a seventh", x.heard(0, 6, 0, 0), ToldOver.LOST);
        check.due("beyond nothing", x.heard(0, 0, 7, 0), ToldOver.LOST);
        check.due("a seventh", x.reached(0, 0, 6, 0), ToldOver.LOST);
    }

    /** Nothing of the four WORDS that are gone is left. */
    private static void twoWordsBehindSix() {
        check.part("1 to 5, two WORDS behind six");
        ToldOver x = crew(six("222222"), 0, 0);
        Check.witness(x, "v" + ";222222".repeat(6) + ";p9");
        check.share("heard", x.heard(0, 5, 5, 0), x.heard(0, 5, 5, 1), 1, 6);
        check.due("returns", x.returns(0, 0, 5), 0);
        Check.tongues(x, "w2;10;01;b;10;01");
        check.due("no WITNESS", x.answers(1, 1), ToldOver.STATE);
        Check.witness(x, "v;10;01;p0");
        check.share("heard", x.heard(0, 1, 1, 0), x.heard(0, 1, 1, 1), 1, 1728);
        check.share("nothing", x.heard(0, 1, 2, 0), x.heard(0, 1, 2, 1), 1727, 1728);
        check.share("over", x.over(0, 1, 0), x.over(0, 1, 1), 1, 1728);
        check.share("reached", x.reached(0, 1, 1, 0), x.reached(0, 1, 1, 1), 1, 1);
        check.share("said", x.said(0, 1, 1, 0), x.said(0, 1, 1, 1), 1, 1);
        check.due("SILENT", x.answers(1, 2), 132);
        check.due("LEFT OUT", x.becomes(1, 1, 2), 11);
        check.due("LEFT OUT", x.carries(0, 1, 1, 2), 132);
        check.due("returns", x.returns(0, 0, 1), 1);
        check.due("alike", x.alike(0, 0), 0);
        check.due("no third", x.becomes(0, 2, 0), ToldOver.UNKNOWN);
        check.due("beyond LEFT OUT", x.becomes(0, 0, 3), ToldOver.UNKNOWN);
    }

    private static void cutToSort() {
        check.part("7, cut to its SORT");
        int[][] rows = {
            {127, 127, 127, 127}, {128, -128, 128, 128}, {255, -1, 255, 255}, {256, 0, 256, 256},
            {-128, -128, -128, -128}, {-129, 127, -129, -129}, {-256, 0, -256, -256}, {-1, -1, -1, -1},
            {32767, -1, 32767, 32767}, {32768, 0, -32768, 32768}, {65535, -1, -1, 65535}, {65536, 0, 0, 65536},
            {-32768, 0, -32768, -32768}, {-32769, -1, 32767, -32769}, {MAX, -1, -1, MAX}, {MIN, 0, 0, MIN}
        };
        for (int[] row : rows) {
            ToldOver x = new ToldOver();
            for (int sort = 0; sort < 3; sort++) {
                x.sheet(sort, sort, 2);
                check.due("put", x.put(sort, 0, row[0]), 1);
                check.due(row[0] + " of sort " + sort, x.cell(sort, 0, sort), row[1 + sort]);
                check.due("the next one", x.cell(sort, 1, sort), 0);
                x.copy(sort, 0, sort, 1, 1);
                check.due("copied", x.cell(sort, 1, sort), row[1 + sort]);
            }
        }
    }

    private static void trace() {
        check.part("7, TRACE, which wraps");
        int[] byKin = {1, 32, 993, 30784, 954305, 29583456, 917087137, -1635069824, 852443009, 655929504};
        ToldOver x = crew(SAME, 0, 4, 2, 0);
        for (int due : byKin) {
            check.due("how TIRED", x.tell(0), 4);
            check.due("TRACE", x.trace(), due);
        }
        check.due("no INTERPRETER", x.tell(2), ToldOver.UNKNOWN);
        check.due("none is PAID", x.pay(2), ToldOver.UNKNOWN);
        check.due("TRACE stays", x.trace(), 655929504);
        check.due("as a kind", x.as(1, 1), 1);
        check.due("TRACE stays", x.trace(), 655929504);
    }

    private static void bodies() {
        check.part("7, TELLING and PAID");
        ToldOver x = crew(SAME, 0, 0, 0, 9, 2, 9, 1, 9);
        check.due("KIN, least TIRED", x.tell(0), 0);
        check.due("KIN, most TIRED", x.tell(1), 9);
        check.due("SWORN, most TIRED", x.tell(2), 118);
        check.due("TRAINED, most TIRED", x.tell(3), 109);
        x.tire(2, 0);
        x.tire(3, 0);
        check.due("SWORN, least TIRED", x.tell(2), 100);
        check.due("TRAINED, least TIRED", x.tell(3), 100);
        check.due("the first", x.pay(0), 0);
        check.due("the last", x.pay(3), 3);
        check.due("SWORN", x.pay(2), 40);
    }
}
