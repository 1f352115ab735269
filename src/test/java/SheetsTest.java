/** Promises 26 to 36: sheet, lose, put, cell, copy, tell, pay, as, trace, fault, many. */
public final class SheetsTest {
    private static final Check check = new Check();
    private static final int MIN = Integer.MIN_VALUE, MAX = Integer.MAX_VALUE;

    public static void main(String[] args) {
        sheet();
        lose();
        put();
        cell();
        copy();
        tell();
        pay();
        as();
        fault();
        many();
        check.end("SheetsTest");
    }

    private static void sheet() {
        check.part("promise 26");
        ToldOver x = new ToldOver();
        check.due("sheet", x.sheet(4, 3, 121), ToldOver.UNKNOWN);
        check.due("sheet", x.sheet(-1, 3, 121), ToldOver.UNKNOWN);
        check.due("sort", x.sheet(0, 3, -1), ToldOver.OUTSIDE);
        check.due("sort", x.sheet(0, -1, -1), ToldOver.OUTSIDE);
        check.due("n", x.sheet(0, 0, 121), ToldOver.OUTSIDE);
        check.due("n", x.sheet(0, 0, MAX), ToldOver.OUTSIDE);
        check.due("size", x.sheet(0, 0, -1), -14);
        check.due("fault", x.fault(), 4);
        check.due("size", x.sheet(0, 0, MIN), -14);
        check.due("nothing yet", x.lose(0), 0);
        check.due("longest", x.sheet(0, 0, 120), 1);
        check.due("fault", x.fault(), 0);
        check.due("last", x.put(0, 119, 5), 1);
        check.due("beyond", x.put(0, 120, 5), -13);
        check.due("refused", x.sheet(0, 1, -1), -14);
        check.due("row stays", x.cell(0, 119, 0), 5);
        check.due("anew", x.sheet(0, 0, 120), 1);
        check.due("0 at first", x.cell(0, 119, 0), 0);
        check.due("none", x.sheet(3, 2, 0), 1);
        check.due("a row of none is no nothing", x.put(3, 0, 1), -13);
        check.due("it was something", x.lose(3), 1);
    }

    private static void lose() {
        check.part("promise 27");
        ToldOver x = new ToldOver();
        check.due("none", x.lose(4), ToldOver.UNKNOWN);
        check.due("none", x.lose(-1), ToldOver.UNKNOWN);
        check.due("nothing", x.lose(2), 0);
        x.sheet(2, 1, 5);
        check.due("something", x.lose(2), 1);
        check.due("nothing", x.lose(2), 0);
        check.due("null", x.cell(2, 0, 1), ToldOver.LOST);
        check.due("fault", x.fault(), 1);
        check.due("losing names no fault", x.lose(2), 0);
        check.due("fault stays", x.fault(), 1);
    }

    private static void put() {
        check.part("promise 28");
        ToldOver x = new ToldOver();
        check.due("sheet", x.put(4, 0, 0), ToldOver.UNKNOWN);
        check.due("sheet", x.put(-1, 0, 0), ToldOver.UNKNOWN);
        check.due("null", x.put(0, -1, 0), -11);
        check.due("fault", x.fault(), 1);
        int[] values = {0, 127, 128, 255, 256, -128, -129, 32767, 32768, 65535, -32769, MIN, MAX};
        for (int v : values) {
            x.sheet(0, 0, 1);
            x.sheet(1, 1, 1);
            x.sheet(2, 2, 1);
            for (int sort = 0; sort < 3; sort++) {
                check.due("put", x.put(sort, 0, v), 1);
            }
            check.due("byte " + v, x.cell(0, 0, 0), (byte) v);
            check.due("short " + v, x.cell(1, 0, 1), (short) v);
            check.due("int " + v, x.cell(2, 0, 2), v);
        }
        check.due("index", x.put(0, 1, 0), -13);
        check.due("fault", x.fault(), 3);
        check.due("index", x.put(0, -1, 0), -13);
        check.due("index", x.put(0, MAX, 0), -13);
        check.due("index", x.put(0, MIN, 0), -13);
        check.due("good", x.put(0, 0, 0), 1);
        check.due("fault", x.fault(), 0);
    }

    private static void cell() {
        check.part("promise 29");
        ToldOver x = new ToldOver();
        lost(x, "sheet", 4, 0, 0, 0);
        lost(x, "sheet", -1, 0, 0, 0);
        lost(x, "sort", 0, 0, 3, 0);
        lost(x, "sort", 0, 0, -1, 0);
        lost(x, "nothing is no cast", 0, -1, 2, 1);
        Check.row(x, 0, 1, 7, -8);
        lost(x, "cast", 0, -1, 0, 2);
        lost(x, "cast", 0, 0, 2, 2);
        lost(x, "index", 0, -1, 1, 3);
        lost(x, "index", 0, 2, 1, 3);
        lost(x, "index", 0, MAX, 1, 3);
        check.due("first", x.cell(0, 0, 1), 7);
        check.due("second", x.cell(0, 1, 1), -8);
        check.due("fault", x.fault(), 0);
        x.sheet(0, 2, 1);
        lost(x, "shorter now", 0, 1, 2, 3);
        lost(x, "of another sort now", 0, 0, 1, 2);
    }

    private static void lost(ToldOver x, String what, int k, int i, int sort, int fault) {
        check.due(what, x.cell(k, i, sort), ToldOver.LOST);
        check.due("fault of " + what, x.fault(), fault);
    }

    private static void copy() {
        check.part("promise 30");
        ToldOver x = new ToldOver();
        check.due("sheet", x.copy(4, 0, 0, 0, 0), ToldOver.UNKNOWN);
        check.due("other", x.copy(0, 0, 4, 0, 0), ToldOver.UNKNOWN);
        check.due("other", x.copy(0, 0, -1, 0, 0), ToldOver.UNKNOWN);
        check.due("first null", x.copy(0, 0, 1, 0, -1), -11);
        Check.row(x, 0, 0, 1, 2, 3, 4, 5);
        check.due("other null", x.copy(0, 0, 1, 0, -1), -11);
        check.due("first null", x.copy(1, 0, 0, 0, -1), -11);
        x.sheet(1, 1, 3);
        check.due("cast", x.copy(0, 0, 1, 0, -1), -12);
        check.due("fault", x.fault(), 2);
        check.due("cast of none", x.copy(0, 0, 1, 0, 0), -12);
        x.sheet(1, 0, 3);
        check.due("n below 0", x.copy(0, 0, 1, 0, -1), -13);
        check.due("i below 0", x.copy(0, -1, 1, 0, 0), -13);
        check.due("j below 0", x.copy(0, 0, 1, -1, 0), -13);
        check.due("i beyond", x.copy(0, 6, 1, 0, 0), -13);
        check.due("j beyond", x.copy(0, 0, 1, 4, 0), -13);
        check.due("none at the ends", x.copy(0, 5, 1, 3, 0), 0);
        check.due("too many of the first", x.copy(0, 4, 1, 0, 2), -13);
        check.due("too many for the other", x.copy(0, 0, 1, 2, 2), -13);
        check.due("wraps", x.copy(0, 1, 1, 1, MAX), -13);
        check.due("wraps", x.copy(0, MAX, 1, MAX, MAX), -13);
        check.due("wraps", x.copy(0, 0, 1, 0, MIN), -13);
        check.due("fault", x.fault(), 3);
        check.due("nothing changed", x.cell(1, 0, 0) + x.cell(1, 1, 0) + x.cell(1, 2, 0), 0);
        check.due("two", x.copy(0, 3, 1, 1, 2), 2);
        check.due("fault", x.fault(), 0);
        row(x, 1, 0, 4, 5);
        check.due("upwards onto itself", x.copy(0, 0, 0, 1, 4), 4);
        row(x, 0, 1, 1, 2, 3, 4);
        check.due("downwards onto itself", x.copy(0, 2, 0, 0, 3), 3);
        row(x, 0, 2, 3, 4, 3, 4);
    }

    private static void row(ToldOver x, int k, int... cells) {
        for (int i = 0; i < cells.length; i++) {
            check.due("cell " + i, x.cell(k, i, 0), cells[i]);
        }
    }

    private static void tell() {
        check.part("promises 31 and 34");
        ToldOver x = new ToldOver();
        check.due("none", x.tell(0), ToldOver.UNKNOWN);
        check.due("trace", x.trace(), 0);
        x.interpreter(0, 7);
        x.interpreter(1, 3);
        x.interpreter(2, 9);
        check.due("kin", x.tell(0), 7);
        check.due("trace", x.trace(), 1);
        check.due("trained", x.tell(1), 103);
        check.due("trace", x.trace(), (1 * 31 + 2) * 31 + 1);
        check.due("sworn", x.tell(2), 118);
        check.due("trace", x.trace(), traced(1, 2, 1, 3, 2, 1, 1));
        x.tire(2, 0);
        check.due("sworn, not tired", x.tell(2), 100);
        check.due("trace", x.trace(), traced(1, 2, 1, 3, 2, 1, 1, 3, 2, 1, 1));
        check.due("none", x.tell(3), ToldOver.UNKNOWN);
        check.due("none", x.tell(-1), ToldOver.UNKNOWN);
        check.due("trace stays", x.trace(), traced(1, 2, 1, 3, 2, 1, 1, 3, 2, 1, 1));
    }

    private static int traced(int... numbers) {
        int trace = 0;
        for (int number : numbers) {
            trace = 31 * trace + number;
        }
        return trace;
    }

    private static void pay() {
        check.part("promise 32");
        ToldOver x = new ToldOver();
        check.due("none", x.pay(0), ToldOver.UNKNOWN);
        x.interpreter(2, 7);
        x.interpreter(0, 8);
        x.interpreter(1, 9);
        check.due("sworn", x.pay(0), 40);
        check.due("trace", x.trace(), 5);
        check.due("kin", x.pay(1), 1);
        check.due("trace", x.trace(), traced(5, 4));
        check.due("trained", x.pay(2), 2);
        check.due("trace", x.trace(), traced(5, 4, 4));
        check.due("none", x.pay(3), ToldOver.UNKNOWN);
        check.due("none", x.pay(-1), ToldOver.UNKNOWN);
        check.due("trace stays", x.trace(), traced(5, 4, 4));
    }

    private static void as() {
        check.part("promise 33");
        ToldOver x = new ToldOver();
        check.due("none", x.as(0, 3), ToldOver.UNKNOWN);
        for (int kind = 0; kind < 3; kind++) {
            x.interpreter(kind, 0);
        }
        for (int who = 0; who < 3; who++) {
            for (int kind = 0; kind < 3; kind++) {
                check.due("as " + who + kind, x.as(who, kind), kind <= who ? 1 : -12);
                check.due("fault", x.fault(), kind <= who ? 0 : 2);
            }
        }
        check.due("cast", x.as(0, 1), -12);
        check.due("kind", x.as(0, 3), ToldOver.OUTSIDE);
        check.due("fault of a refused one", x.fault(), 0);
        check.due("cast", x.as(0, 1), -12);
        check.due("who", x.as(3, 0), ToldOver.UNKNOWN);
        check.due("fault of a refused one", x.fault(), 0);
        check.due("kind", x.as(0, -1), ToldOver.OUTSIDE);
        check.due("trace", x.trace(), 0);
    }

    /** Calls that name no FAULT leave the latest one as it is; each that names one makes it anew. */
    private static void fault() {
        check.part("promise 35");
        ToldOver x = new ToldOver();
        check.due("ahead of any", x.fault(), 0);
        x.put(0, 0, 0);
        x.many(0);
        x.many(9);
        x.lose(9);
        x.tire(0, 0);
        x.interpreter(0, 0);
        x.interpreter(9, 0);
        x.tell(0);
        x.pay(0);
        x.trace();
        x.becomes(0, 0, 0);
        x.heard(0, 0, 0, 0);
        x.turn(0, 0, 0, 0, 0);
        x.back(0);
        x.wrong(0, 0);
        x.again(0);
        x.shifts(0, 0, 0, 0, 0);
        x.answers(0, 0);
        x.ask(0, 0);
        check.due("still", x.fault(), 1);
        check.due("asked for twice", x.fault(), 1);
        for (int call = 0; call < 9; call++) {
            x.put(0, 0, 0);
            refused(x, call);
            check.due("refused, call " + call, x.fault(), 0);
        }
    }

    private static void refused(ToldOver x, int call) {
        switch (call) {
            case 0 -> x.tongues(9, 0, 0, 0);
            case 1 -> x.witness(0, 0, 0, 0);
            case 2 -> x.hands(0, 0, 0, 9, 0, 0, 0, 0);
            case 3 -> x.booth(0, 0, 0, 0, 9);
            case 4 -> x.sheet(0, 0, 999);
            case 5 -> x.put(9, 0, 0);
            case 6 -> x.cell(0, 0, 9);
            case 7 -> x.copy(0, 0, 9, 0, 0);
            default -> x.as(9, 0);
        }
    }

    private static void many() {
        check.part("promise 36");
        ToldOver x = new ToldOver();
        check.due("below", x.many(-1), ToldOver.OUTSIDE);
        check.due("beyond", x.many(5), ToldOver.OUTSIDE);
        check.due("extremes", x.many(MIN), ToldOver.OUTSIDE);
        check.due("extremes", x.many(MAX), ToldOver.OUTSIDE);
        x.interpreter(0, 0);
        x.interpreter(0, 0);
        Check.tongues(x, "w3;444;930;001;b;100;010;093");
        Check.witness(x, "v;444;930;001;p7");
        x.turn(0, 0, 0, 0, 1);
        int[] many = {3, 2, 1, 1, 7};
        for (int what = 0; what < 5; what++) {
            check.due("many " + what, x.many(what), many[what]);
        }
    }
}
