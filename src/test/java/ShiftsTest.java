/** Promises 24 and 25: shifts, booth. */
public final class ShiftsTest {
    private static final Check check = new Check();
    private static final int MIN = Integer.MIN_VALUE, MAX = Integer.MAX_VALUE;

    public static void main(String[] args) {
        shifts();
        shiftsAgainstEveryRow();
        shiftsRefused();
        booth();
        boothRefused();
        check.end("ShiftsTest");
    }

    private static void shifts() {
        check.part("promise 24");
        ToldOver x = new ToldOver();
        x.interpreter(0, 0);
        x.interpreter(2, 0);
        x.interpreter(1, 5);
        row(x, 0, 1, 1, 9, 0, 0);
        row(x, 0, 1, 4, 0, 0, 0, 1, 0, 1);
        row(x, 0, 1, 4, 9, 6, 0, 0, 0, 0);
        row(x, 2, 0, 3, 0, 3, 1, 1, 1);
        row(x, 2, 0, 1, 9, 0, 1);
        check.due("as tired as before", x.ofInterpreter(2, 1), 5);
        check.due("as tired as before", x.ofInterpreter(0, 1), 0);
        x.tire(0, 9);
        row(x, 0, 2, 1, 0, 5, 1);
        x.tire(2, 9);
        // 9, 9, 7 as 0 0 1 and 9, 8, 8 as 0 1 0: of several the first as a row.
        row(x, 0, 2, 3, 0, 25, 0, 0, 1);
        x.tire(2, 0);
        row(x, 0, 2, 1, 0, 0, 1);
    }

    /** Costs, then who works in each MINUTE. */
    private static void row(ToldOver x, int first, int second, int m, int c, int cost, int... who) {
        check.due("cost", x.shifts(first, second, m, c, -1), cost);
        for (int q = 0; q < who.length; q++) {
            check.due("minute " + q + " of " + m, x.shifts(first, second, m, c, q), who[q]);
        }
    }

    private static void shiftsAgainstEveryRow() {
        check.part("promise 24, every row of some minutes");
        ToldOver x = new ToldOver();
        x.interpreter(0, 0);
        x.interpreter(0, 0);
        for (int k = 0; k < 120; k++) {
            int first = k * 7 % 10;
            int second = k * 3 / 10 % 10;
            int c = k % 10;
            int m = 1 + k % 9;
            x.tire(0, first);
            x.tire(1, second);
            int best = -1;
            for (int bits = 0; bits < 1 << m; bits++) {
                if (best < 0 || cost(first, second, m, c, bits) < cost(first, second, m, c, best)) {
                    best = bits;
                }
            }
            check.due("cost", x.shifts(0, 1, m, c, -1), cost(first, second, m, c, best));
            for (int q = 0; q < m; q++) {
                check.due("minute " + q, x.shifts(0, 1, m, c, q), best >> m - 1 - q & 1);
            }
            if (k % 40 == 39) {
                x = new ToldOver();
                x.interpreter(0, 0);
                x.interpreter(0, 0);
            }
        }
    }

    private static int cost(int first, int second, int m, int c, int bits) {
        int[] tired = {first, second};
        int cost = 0;
        for (int q = 0; q < m; q++) {
            int who = bits >> m - 1 - q & 1;
            int before = q == 0 ? who : bits >> m - q & 1;
            cost += tired[who] + (who == before ? 0 : c);
            tired[who] = Math.min(9, tired[who] + 1);
            tired[1 - who] = Math.max(0, tired[1 - who] - 1);
        }
        return cost;
    }

    private static void shiftsRefused() {
        check.part("promise 24, refusals");
        ToldOver x = new ToldOver();
        x.interpreter(0, 0);
        x.interpreter(0, 0);
        check.due("first", x.shifts(2, 0, 0, 0, 0), ToldOver.UNKNOWN);
        check.due("second", x.shifts(0, 2, 0, 0, 0), ToldOver.UNKNOWN);
        check.due("one", x.shifts(1, 1, 0, 0, 0), ToldOver.UNKNOWN);
        check.due("minus", x.shifts(-1, 1, 1, 0, 0), ToldOver.UNKNOWN);
        check.due("m", x.shifts(0, 1, 0, 0, 9), ToldOver.OUTSIDE);
        check.due("m", x.shifts(0, 1, 41, 0, 99), ToldOver.OUTSIDE);
        check.due("c", x.shifts(0, 1, 5, 10, 9), ToldOver.OUTSIDE);
        check.due("c", x.shifts(0, 1, 5, -1, 9), ToldOver.OUTSIDE);
        check.due("q", x.shifts(0, 1, 5, 0, 5), ToldOver.UNKNOWN);
        check.due("q", x.shifts(0, 1, 5, 0, -2), ToldOver.UNKNOWN);
        check.due("extremes", x.shifts(0, 1, 40, 9, MAX), ToldOver.UNKNOWN);
        check.due("extremes", x.shifts(0, 1, 40, 9, MIN), ToldOver.UNKNOWN);
    }

    private static void booth() {
        check.part("promise 25");
        words(0, 0, 0, 0);
        words(2, 0, 0, 0, 1, 2);
        words(4, 2, 4, 2, 1, 0);
        words(3, 1, 3, 1, 2, 0);
        words(3, 1, 2, 1, 0, 2);
        words(2, 1, 2, 1, 0);
        words(16, 8, 16, 8, 7, 6, 5, 4, 3, 2, 1, 0);
        words(9, 1, 9, 1, 2, 3, 4, 5, 6, 7, 8, 0);
        words(5, 2, 3, 0, 3, 1, 2);
    }

    private static void words(int end, int held, int behind, int... cells) {
        for (int sort = 0; sort < 3; sort++) {
            ToldOver x = new ToldOver();
            int[] row = new int[cells.length + 2];
            row[0] = 77;
            System.arraycopy(cells, 0, row, 1, cells.length);
            Check.row(x, 2, sort, row);
            check.due("end", x.booth(2, sort, 1, cells.length, 0), end);
            check.due("held", x.booth(2, sort, 1, cells.length, 1), held);
            check.due("behind", x.booth(2, sort, 1, cells.length, 2), behind);
            check.due("fault", x.fault(), 0);
        }
    }

    private static void boothRefused() {
        check.part("promise 25, refusals and faults");
        ToldOver x = new ToldOver();
        check.due("sheet", x.booth(4, 3, 0, 1, 3), ToldOver.UNKNOWN);
        check.due("sheet", x.booth(-1, 3, 0, 1, 3), ToldOver.UNKNOWN);
        check.due("sort", x.booth(0, 3, 0, 1, 0), ToldOver.OUTSIDE);
        check.due("what", x.booth(0, 0, 0, 1, 3), ToldOver.OUTSIDE);
        check.due("what", x.booth(0, 0, 0, 1, -1), ToldOver.OUTSIDE);
        check.due("null", x.booth(0, 0, -1, -1, 0), -11);
        check.due("fault", x.fault(), 1);
        Check.row(x, 0, 2, 0, 1, 2, 3, 4, 5, 6, 7, 8, 9, 9, -1);
        check.due("cast", x.booth(0, 0, -1, -1, 0), -12);
        check.due("size", x.booth(0, 2, -1, -1, 0), -14);
        check.due("index", x.booth(0, 2, -1, 1, 0), -13);
        check.due("index", x.booth(0, 2, 0, 13, 0), -13);
        check.due("index that wraps", x.booth(0, 2, MAX, 1, 0), -13);
        check.due("index of none", x.booth(0, 2, 13, 0, 0), -13);
        check.due("fault", x.fault(), 3);
        check.due("none", x.booth(0, 2, 12, 0, 0), ToldOver.OUTSIDE);
        check.due("fault", x.fault(), 0);
        check.due("ten", x.booth(0, 2, 0, 10, 0), ToldOver.OUTSIDE);
        check.due("nine", x.booth(0, 2, 0, 9, 0), 8);
        check.due("not from 0 on", x.booth(0, 2, 1, 2, 0), ToldOver.OUTSIDE);
        check.due("twice", x.booth(0, 2, 9, 2, 0), ToldOver.OUTSIDE);
        check.due("minus", x.booth(0, 2, 11, 1, 0), ToldOver.OUTSIDE);
        x.put(0, 1, 0);
        check.due("twice", x.booth(0, 2, 0, 2, 0), ToldOver.OUTSIDE);
        x.put(0, 1, 32);
        check.due("far beyond", x.booth(0, 2, 0, 2, 0), ToldOver.OUTSIDE);
        x.put(0, 1, MIN);
        check.due("far below", x.booth(0, 2, 0, 2, 0), ToldOver.OUTSIDE);
    }
}
