/** The edges of promises 19 to 36: each number just inside and just beyond, each refusal ahead of the next. */
public final class PartsRefusalsTest {
    private static final Check check = new Check();
    private static final Edges edges = new Edges(check);
    private static final int UNKNOWN = ToldOver.UNKNOWN, OUTSIDE = ToldOver.OUTSIDE, STATE = ToldOver.STATE;
    private static final int NULL = 1, CAST = 2, INDEX = 3, SIZE = 4;
    private static final int MIN = Integer.MIN_VALUE, MAX = Integer.MAX_VALUE;

    public static void main(String[] args) {
        turn();
        ofTurn();
        back();
        wrongAndAgain();
        shifts();
        booth();
        sheet();
        lose();
        put();
        cell();
        copy();
        copyAtTheEnds();
        bodies();
        as();
        fault();
        many();
        check.end("PartsRefusalsTest");
    }

    private static void turn() {
        check.part("promise 19, edges");
        int[] base = {0, 0, 0, 0, 1};
        edges.range("turn", 0, 0, 2, UNKNOWN, base);
        edges.range("turn", 1, 0, 2, UNKNOWN, base);
        edges.range("turn", 2, 0, 2, UNKNOWN, base);
        edges.range("turn", 3, 0, 9, OUTSIDE, base);
        edges.range("turn", 4, 1, 9, OUTSIDE, base);
        edges.order("turn", base,
                Edges.argument(0, 4, UNKNOWN), Edges.argument(1, 3, UNKNOWN), Edges.argument(2, 3, UNKNOWN),
                Edges.argument(3, 10, OUTSIDE), Edges.argument(4, 0, OUTSIDE),
                Edges.court(Court.Kind.NO_WITNESS, STATE), Edges.court(Court.Kind.FULL, ToldOver.FULL));
        edges.order("turn", base, Edges.court(Court.Kind.NO_TONGUES, UNKNOWN), Edges.argument(3, 10, OUTSIDE));
        ToldOver x = Court.open(Court.Kind.WHOLE);
        for (int t = 2; t < 6; t++) {
            check.due("TURN " + t, x.turn(2, 2, 1, 9, 9), t);
        }
        check.due("a seventh", x.turn(2, 2, 1, 9, 9), ToldOver.FULL);
        check.due("six", x.many(3), 6);
        check.due("one back", x.back(1), 5);
        check.due("a sixth again", x.turn(1, 1, 0, 0, 1), 5);
        check.due("a seventh", x.turn(1, 1, 0, 0, 1), ToldOver.FULL);
        check.due("the sixth is the later one", x.ofTurn(5, 4), 1);
    }

    private static void ofTurn() {
        check.part("promise 20, edges");
        edges.range("ofTurn", 0, 0, 1, UNKNOWN, 0, 0);
        edges.range("ofTurn", 1, 0, 5, OUTSIDE, 0, 0);
        edges.order("ofTurn", new int[] {0, 0}, Edges.argument(0, 2, UNKNOWN), Edges.argument(1, 6, OUTSIDE));
        ToldOver x = Court.open(Court.Kind.FULL);
        check.due("the last", x.ofTurn(5, 3), 5);
        check.due("none behind it", x.ofTurn(6, 3), UNKNOWN);
        x.back(1);
        check.due("the last now", x.ofTurn(4, 3), 4);
        check.due("taken back", x.ofTurn(5, 3), UNKNOWN);
    }

    private static void back() {
        check.part("promise 21, edges");
        edges.range("back", 0, 0, 2, OUTSIDE, 0);
        ToldOver x = Court.open(Court.Kind.WHOLE);
        check.due("none of two", x.back(0), 2);
        check.due("both", x.back(2), 0);
        check.due("none of none", x.back(0), 0);
        check.due("one of none", x.back(1), OUTSIDE);
        x = Court.open(Court.Kind.FULL);
        check.due("seven of six", x.back(7), OUTSIDE);
        check.due("six of six", x.back(6), 0);
        check.due("the next is the first", x.turn(0, 0, 0, 0, 1), 0);
    }

    private static void wrongAndAgain() {
        check.part("promise 22, edges");
        edges.range("wrong", 0, 0, 7, ToldOver.LOST, 0, 0);
        edges.range("wrong", 1, 0, 1, ToldOver.LOST, 0, 0);
        check.part("promise 23, edges");
        edges.range("again", 0, 0, 60, OUTSIDE, 0);
    }

    private static void shifts() {
        check.part("promise 24, edges");
        int[] base = {0, 1, 5, 2, -1};
        edges.range("shifts", 0, 0, 2, UNKNOWN, 0, 1, 5, 2, -1);
        edges.refused(UNKNOWN, 0, "shifts", 1, 1, 5, 2, -1);
        edges.taken("shifts", 2, 0, 5, 2, -1);
        edges.taken("shifts", 0, 2, 5, 2, -1);
        edges.refused(UNKNOWN, 0, "shifts", 0, 3, 5, 2, -1);
        edges.refused(UNKNOWN, 0, "shifts", 0, -1, 5, 2, -1);
        edges.refused(UNKNOWN, 0, "shifts", 0, MAX, 5, 2, -1);
        edges.refused(UNKNOWN, 0, "shifts", 0, MIN, 5, 2, -1);
        edges.range("shifts", 2, 1, 40, OUTSIDE, base);
        edges.range("shifts", 3, 0, 9, OUTSIDE, base);
        edges.range("shifts", 4, -1, 4, UNKNOWN, base);
        edges.range("shifts", 4, -1, 0, UNKNOWN, 0, 1, 1, 2, -1);
        edges.range("shifts", 4, -1, 39, UNKNOWN, 0, 1, 40, 2, -1);
        edges.order("shifts", base,
                Edges.argument(0, 3, UNKNOWN), Edges.argument(1, 3, UNKNOWN), Edges.argument(1, 0, UNKNOWN),
                Edges.argument(2, 41, OUTSIDE), Edges.argument(2, 0, OUTSIDE),
                Edges.argument(3, 10, OUTSIDE), Edges.argument(3, -1, OUTSIDE),
                Edges.argument(4, 5, UNKNOWN), Edges.argument(4, -2, UNKNOWN));
    }

    private static void booth() {
        check.part("promise 25, edges");
        int[] base = {Court.BOOTH, 2, 0, 9, 0};
        edges.range("booth", 4, 0, 2, OUTSIDE, base);
        edges.cells("booth", base, 0, 11);
        edges.taken("booth", Court.BOOTH, 2, 0, 1, 0);
        edges.refused(OUTSIDE, 0, "booth", Court.BOOTH, 2, 0, 0, 0);
        edges.refused(OUTSIDE, 0, "booth", Court.BOOTH, 2, 11, 0, 0);
        edges.taken("booth", Court.BOOTH, 2, 0, 9, 0);
        edges.refused(OUTSIDE, 0, "booth", Court.BOOTH, 2, 0, 10, 0);
        edges.order("booth", base,
                Edges.argument(0, 4, UNKNOWN),
                Edges.argument(1, 3, OUTSIDE),
                Edges.argument(4, 3, OUTSIDE),
                Edges.ahead("row", x -> x.sheet(Court.BOOTH, 1, 11), -10 - CAST, CAST),
                Edges.ahead("row", x -> x.lose(Court.BOOTH), -10 - NULL, NULL),
                Edges.faulty(3, -1, SIZE),
                Edges.faulty(2, -1, INDEX), Edges.faulty(2, 12, INDEX), Edges.faulty(3, 12, INDEX),
                Edges.argument(3, 0, OUTSIDE), Edges.argument(3, 10, OUTSIDE),
                Edges.ahead("cell", x -> x.put(Court.BOOTH, 1, 0), OUTSIDE, 0),
                Edges.ahead("cell", x -> x.put(Court.BOOTH, 0, -1), OUTSIDE, 0),
                Edges.ahead("cell", x -> x.put(Court.BOOTH, 8, 9), OUTSIDE, 0));
    }

    private static void sheet() {
        check.part("promise 26, edges");
        edges.range("sheet", 0, 0, 3, UNKNOWN, 0, 0, 0);
        edges.range("sheet", 1, 0, 2, OUTSIDE, 0, 0, 0);
        edges.taken("sheet", 0, 0, 0);
        edges.taken("sheet", 0, 0, 120);
        edges.refused(OUTSIDE, 0, "sheet", 0, 0, 121);
        edges.refused(OUTSIDE, 0, "sheet", 0, 0, MAX);
        edges.refused(-10 - SIZE, SIZE, "sheet", 0, 0, -1);
        edges.refused(-10 - SIZE, SIZE, "sheet", 0, 0, MIN);
        edges.order("sheet", new int[] {0, 0, 0},
                Edges.argument(0, 4, UNKNOWN), Edges.argument(1, 3, OUTSIDE),
                Edges.argument(2, 121, OUTSIDE), Edges.faulty(2, -1, SIZE));
        longest();
        ToldOver x = Court.open(Court.Kind.WHOLE);
        check.due("empty", x.sheet(Court.TEXTS, 0, 0), 1);
        check.due("it has no cell", x.put(Court.TEXTS, 0, 0), -10 - INDEX);
        check.due("but it is there", x.lose(Court.TEXTS), 1);
        check.due("a row in place of none", x.sheet(Court.TEXTS, 2, 1), 1);
        check.due("0 at first", x.cell(Court.TEXTS, 0, 2), 0);
    }

    /** Behind a row that was full of other numbers a new one is 0 from its first to its last cell. */
    private static void longest() {
        for (int sort = 0; sort < 3; sort++) {
            ToldOver x = new ToldOver();
            x.sheet(1, sort, 120);
            for (int i = 0; i < 120; i++) {
                check.due("put", x.put(1, i, 100 + i % 9), 1);
            }
            check.due("one beyond", x.put(1, 120, 1), -10 - INDEX);
            check.due("last", x.cell(1, 119, sort), 102);
            check.due("shorter", x.sheet(1, sort, 1), 1);
            check.due("its end", x.put(1, 1, 1), -10 - INDEX);
            check.due("longest again", x.sheet(1, sort, 120), 1);
            for (int i = 0; i < 120; i++) {
                check.due("0 at first", x.cell(1, i, sort), 0);
            }
            check.due("one beyond", x.cell(1, 120, sort), ToldOver.LOST);
        }
    }

    private static void lose() {
        check.part("promise 27, edges");
        edges.range("lose", 0, 0, 3, UNKNOWN, 0);
        ToldOver x = Court.open(Court.Kind.WHOLE);
        int[] had = {1, 1, 1, 0};
        for (int k = 0; k < 4; k++) {
            check.due("SHEET " + k, x.lose(k), had[k]);
            check.due("SHEET " + k + " once more", x.lose(k), 0);
        }
        check.due("the TONGUES stay", x.many(0), 3);
        check.due("the WITNESS stays", x.many(2), 1);
    }

    private static void put() {
        check.part("promise 28, edges");
        edges.taken("put", 0, 0, 0);
        edges.taken("put", 2, 0, 0);
        edges.beyond("put", 0, 0, 3, UNKNOWN, 0, 0, 0, 0);
        edges.refused(-10 - NULL, NULL, "put", Court.NOTHING, 0, 0);
        edges.refused(-10 - NULL, NULL, "put", Court.NOTHING, -1, 0);
        edges.faultRange("put", 1, 0, 10, INDEX, Court.HANDS, 0, 0);
        edges.order("put", new int[] {0, 0, 0},
                Edges.argument(0, 4, UNKNOWN),
                Edges.ahead("row", x -> x.lose(0), -10 - NULL, NULL),
                Edges.faulty(1, -1, INDEX), Edges.faulty(1, 44, INDEX));
    }

    private static void cell() {
        check.part("promise 29, edges");
        edges.beyond("cell", 0, 0, 3, UNKNOWN, 0, 0, 0, 0);
        edges.beyond("cell", 2, 0, 2, OUTSIDE, 0, 0, 0, 0);
        edges.faultRange("cell", 1, 0, 10, INDEX, Court.BOOTH, 0, 2);
        for (int sort = 0; sort < 3; sort++) {
            edges.taken("cell", sort, 0, sort);
            edges.refused(-10 - NULL, NULL, "cell", Court.NOTHING, 0, sort);
            for (int k = 0; k < 3; k++) {
                if (k != sort) {
                    edges.refused(-10 - CAST, CAST, "cell", k, 0, sort);
                }
            }
        }
        edges.order("cell", new int[] {Court.BOOTH, 0, 2},
                Edges.argument(0, 4, UNKNOWN), Edges.argument(2, 3, OUTSIDE),
                Edges.ahead("row", x -> x.sheet(Court.BOOTH, 1, 11), 0, CAST),
                Edges.ahead("row", x -> x.lose(Court.BOOTH), 0, NULL),
                Edges.faulty(1, -1, INDEX), Edges.faulty(1, 11, INDEX));
    }

    private static void copy() {
        check.part("promise 30, edges");
        int[] base = {Court.BOOTH, 1, Court.NOTHING, 1, 2};
        edges.order(x -> x.sheet(Court.NOTHING, 2, 5), "copy", base,
                Edges.argument(0, 4, UNKNOWN), Edges.argument(0, -1, UNKNOWN),
                Edges.argument(2, 4, UNKNOWN), Edges.argument(2, -1, UNKNOWN),
                Edges.ahead("first", x -> x.lose(Court.BOOTH), -10 - NULL, NULL),
                Edges.ahead("other", x -> x.lose(Court.NOTHING), -10 - NULL, NULL),
                Edges.ahead("other", x -> x.sheet(Court.NOTHING, 1, 5), -10 - CAST, CAST),
                Edges.ahead("first", x -> x.sheet(Court.BOOTH, 0, 5), -10 - CAST, CAST),
                Edges.faulty(1, -1, INDEX), Edges.faulty(1, 12, INDEX), Edges.faulty(1, MAX, INDEX),
                Edges.faulty(3, -1, INDEX), Edges.faulty(3, 6, INDEX), Edges.faulty(3, MIN, INDEX),
                Edges.faulty(4, -1, INDEX), Edges.faulty(4, 5, INDEX), Edges.faulty(4, MAX, INDEX));
    }

    private static void copyAtTheEnds() {
        check.part("promise 30, at the ends");
        ToldOver x = new ToldOver();
        Check.row(x, 0, 2, 1, 2, 3, 4);
        x.sheet(1, 2, 3);
        check.due("all that fit", x.copy(0, 1, 1, 0, 3), 3);
        check.due("last", x.cell(1, 2, 2), 4);
        check.due("one more than the other has", x.copy(0, 0, 1, 0, 4), -10 - INDEX);
        check.due("one more than the first has", x.copy(1, 0, 0, 0, 4), -10 - INDEX);
        check.due("last one to the last", x.copy(0, 3, 1, 2, 1), 1);
        check.due("from behind the last", x.copy(0, 4, 1, 0, 1), -10 - INDEX);
        check.due("to behind the last", x.copy(0, 0, 1, 3, 1), -10 - INDEX);
        check.due("none, at both ends", x.copy(0, 4, 1, 3, 0), 0);
        check.due("none, beyond the first", x.copy(0, 5, 1, 3, 0), -10 - INDEX);
        check.due("none, beyond the other", x.copy(0, 4, 1, 4, 0), -10 - INDEX);
        check.due("none, below the first", x.copy(0, -1, 1, 0, 0), -10 - INDEX);
        check.due("none, below the other", x.copy(0, 0, 1, -1, 0), -10 - INDEX);
        check.due("less than none", x.copy(0, 2, 1, 2, -1), -10 - INDEX);
        check.due("fault", x.fault(), INDEX);
        x.sheet(2, 2, 0);
        check.due("none of a row of none", x.copy(2, 0, 2, 0, 0), 0);
        check.due("one of a row of none", x.copy(2, 0, 0, 0, 1), -10 - INDEX);
        check.due("all onto itself", x.copy(0, 0, 0, 0, 4), 4);
        check.due("up by one", x.copy(0, 0, 0, 1, 3), 3);
        int[] up = {1, 1, 2, 3};
        for (int i = 0; i < 4; i++) {
            check.due("as they were", x.cell(0, i, 2), up[i]);
        }
        check.due("up beyond", x.copy(0, 0, 0, 1, 4), -10 - INDEX);
        check.due("nothing is no CAST", x.copy(3, 0, 0, 0, 1), -10 - NULL);
        check.due("nothing to nothing", x.copy(3, 0, 3, 0, 0), -10 - NULL);
    }

    private static void bodies() {
        check.part("promises 31 and 32, edges");
        edges.range("tell", 0, 0, 2, UNKNOWN, 0);
        edges.range("pay", 0, 0, 2, UNKNOWN, 0);
    }

    private static void as() {
        check.part("promise 33, edges");
        edges.range("as", 0, 0, 2, UNKNOWN, 0, 0);
        edges.range("as", 1, 0, 2, OUTSIDE, 2, 0);
        edges.taken("as", 1, 1);
        edges.refused(-10 - CAST, CAST, "as", 1, 2);
        edges.taken("as", 0, 0);
        edges.refused(-10 - CAST, CAST, "as", 0, 1);
        edges.refused(-10 - CAST, CAST, "as", 0, 2);
        edges.order("as", new int[] {0, 0},
                Edges.argument(0, 3, UNKNOWN), Edges.argument(1, 3, OUTSIDE), Edges.faulty(1, 2, CAST));
    }

    /** A TEXT that is not taken has come to no FAULT, and neither has one that is. */
    private static void fault() {
        check.part("promise 35, edges");
        check.due("ahead of any", new ToldOver().fault(), 0);
        ToldOver x = Court.open(Court.Kind.WHOLE);
        check.due("INDEX", x.put(0, 44, 0), -10 - INDEX);
        check.due("it stays", x.fault() * 10 + x.fault(), 33);
        check.due("a TEXT's", x.tongues(0, 0, 1, 5), -100);
        check.due("is none", x.fault(), 0);
        check.due("SIZE", x.witness(0, 0, 0, -1), -10 - SIZE);
        check.due("is told", x.fault(), SIZE);
        check.due("a TEXT's", x.witness(0, 0, 0, 5), -100);
        check.due("is none", x.fault(), 0);
    }

    private static void many() {
        check.part("promise 36, edges");
        edges.range("many", 0, 0, 4, OUTSIDE, 0);
        ToldOver x = Court.open(Court.Kind.NO_WITNESS);
        check.due("no WITNESS", x.many(2), 0);
        check.due("no PLEASE without", x.many(4), 0);
        x = Court.open(Court.Kind.FULL);
        int[] most = {3, 4, 1, 6, 2};
        for (int what = 0; what < 5; what++) {
            check.due("of a full court " + what, x.many(what), most[what]);
        }
        Check.tongues(x, Court.TONGUES);
        int[] anew = {3, 4, 0, 0, 0};
        for (int what = 0; what < 5; what++) {
            check.due("of TONGUES made anew " + what, x.many(what), anew[what]);
        }
    }
}
