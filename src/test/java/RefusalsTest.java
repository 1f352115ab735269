/** The edges of promises 1 to 18: each number just inside and just beyond, each refusal ahead of the next. */
public final class RefusalsTest {
    private static final Check check = new Check();
    private static final Edges edges = new Edges(check);
    private static final int UNKNOWN = ToldOver.UNKNOWN, OUTSIDE = ToldOver.OUTSIDE, STATE = ToldOver.STATE;
    private static final int TEXT = Court.TONGUES.length(), WITNESS = Court.WITNESS.length();
    private static final int NULL = 1, CAST = 2, INDEX = 3, SIZE = 4;

    public static void main(String[] args) {
        newObject();
        tongues();
        words();
        interpreters();
        carrying();
        hands();
        witness();
        hearing();
        neverHeard();
        ask();
        check.end("RefusalsTest");
    }

    private static void newObject() {
        check.part("promise 1, edges");
        ToldOver x = new ToldOver();
        check.due("no WORD", x.becomes(0, 0, 0), UNKNOWN);
        check.due("no WORD, the other way", x.becomes(1, 0, 0), UNKNOWN);
        check.due("no INTERPRETER", x.tire(0, 0), UNKNOWN);
        check.due("no TURN", x.ofTurn(0, 0), UNKNOWN);
        check.due("none to take back", x.back(1), OUTSIDE);
        for (int k = 0; k < 4; k++) {
            check.due("SHEET " + k + " has nothing", x.put(k, 0, 0), -10 - NULL);
        }
        check.due("no fifth SHEET", x.put(4, 0, 0), UNKNOWN);
        check.due("fault", x.fault(), 0);
        x.interpreter(0, 0);
        check.due("no WITNESS", x.ask(0, 0), STATE);
        check.due("no bit of a WORD", x.ask(0, 1), OUTSIDE);
        check.due("carried is no WORD", x.carries(0, 0, 0, 0), UNKNOWN);
    }

    private static void tongues() {
        check.part("promise 2, edges");
        int[] base = {Court.TEXTS, 0, 0, TEXT};
        edges.cells("tongues", base, 0, TEXT + WITNESS);
        edges.taken("tongues", base);
        edges.refused(-100 - (TEXT - 1), 0, "tongues", Court.TEXTS, 0, 0, TEXT - 1);
        edges.refused(-100 - TEXT, 0, "tongues", Court.TEXTS, 0, 0, TEXT + 1);
        edges.refused(-100, 0, "tongues", Court.TEXTS, 0, TEXT + WITNESS, 0);
        edges.order("tongues", base,
                Edges.argument(0, 4, UNKNOWN),
                Edges.argument(1, 3, OUTSIDE),
                Edges.ahead("row", x -> x.sheet(Court.TEXTS, 1, TEXT), -10 - CAST, CAST),
                Edges.ahead("row", x -> x.lose(Court.TEXTS), -10 - NULL, NULL),
                Edges.faulty(3, -1, SIZE),
                Edges.faulty(2, -1, INDEX),
                Edges.faulty(3, TEXT + WITNESS + 1, INDEX),
                Edges.ahead("text", x -> x.put(Court.TEXTS, 2, 0), -102, 0));
    }

    private static void words() {
        check.part("promise 3, edges");
        edges.range("becomes", 0, 0, 1, OUTSIDE, 0, 0, 0);
        edges.range("becomes", 1, 0, 2, UNKNOWN, 0, 0, 0);
        edges.range("becomes", 2, 0, 3, UNKNOWN, 0, 0, 0);
        edges.order("becomes", new int[] {0, 0, 0},
                Edges.argument(1, 3, UNKNOWN), Edges.argument(2, 4, UNKNOWN), Edges.argument(0, 2, OUTSIDE));
        for (String name : new String[] {"meant", "alike"}) {
            check.part("promises 4 and 5, edges");
            edges.range(name, 0, 0, 1, OUTSIDE, 0, 0);
            edges.range(name, 1, 0, 2, UNKNOWN, 0, 0);
            edges.order(name, new int[] {0, 0}, Edges.argument(1, 3, UNKNOWN), Edges.argument(0, 2, OUTSIDE));
        }
    }

    private static void interpreters() {
        check.part("promise 6, edges");
        edges.range("interpreter", 0, 0, 2, OUTSIDE, 0, 0);
        edges.range("interpreter", 1, 0, 9, OUTSIDE, 0, 0);
        edges.order("interpreter", new int[] {0, 0},
                Edges.argument(0, 3, OUTSIDE), Edges.argument(1, 10, OUTSIDE),
                Edges.court(Court.Kind.FULL, ToldOver.FULL));
        ToldOver x = new ToldOver();
        for (int who = 0; who < 4; who++) {
            check.due("INTERPRETER " + who, x.interpreter(2 - who % 3, 9 - who), who);
        }
        check.due("a fifth", x.interpreter(0, 0), ToldOver.FULL);
        check.due("four", x.many(1), 4);
        check.due("the first stays", x.ofInterpreter(0, 0) * 10 + x.ofInterpreter(0, 1), 29);
        check.due("the last", x.ofInterpreter(3, 0) * 10 + x.ofInterpreter(3, 1), 26);
        check.due("none behind it", x.ofInterpreter(4, 0), UNKNOWN);
        check.part("promise 7, edges");
        edges.range("ofInterpreter", 0, 0, 2, UNKNOWN, 0, 0);
        edges.range("ofInterpreter", 1, 0, 1, OUTSIDE, 0, 0);
        edges.order("ofInterpreter", new int[] {0, 0}, Edges.argument(0, 3, UNKNOWN), Edges.argument(1, 2, OUTSIDE));
        check.part("promise 8, edges");
        edges.range("tire", 0, 0, 2, UNKNOWN, 0, 0);
        edges.range("tire", 1, 0, 9, OUTSIDE, 0, 0);
        edges.order("tire", new int[] {0, 0}, Edges.argument(0, 3, UNKNOWN), Edges.argument(1, 10, OUTSIDE));
        check.due("to 0", x.tire(1, 0), 8);
        check.due("to 9", x.tire(1, 9), 0);
        check.due("is 9", x.ofInterpreter(1, 1), 9);
    }

    private static void carrying() {
        check.part("promise 9, edges");
        int[] base = {0, 0, 0, 0};
        edges.range("carries", 0, 0, 2, UNKNOWN, base);
        edges.range("carries", 1, 0, 1, OUTSIDE, base);
        edges.range("carries", 2, 0, 2, UNKNOWN, base);
        edges.range("carries", 3, 0, 3, UNKNOWN, base);
        edges.order("carries", base,
                Edges.argument(0, 3, UNKNOWN), Edges.argument(2, 3, UNKNOWN), Edges.argument(3, 4, UNKNOWN),
                Edges.court(Court.Kind.NO_TONGUES, UNKNOWN), Edges.argument(1, 2, OUTSIDE));
        check.part("promise 10, edges");
        edges.range("returns", 0, 0, 2, UNKNOWN, 0, 0, 0);
        edges.range("returns", 1, 0, 1, OUTSIDE, 0, 0, 0);
        edges.range("returns", 2, 0, 2, UNKNOWN, 0, 0, 0);
        edges.order("returns", new int[] {0, 0, 0},
                Edges.argument(0, 3, UNKNOWN), Edges.argument(2, 3, UNKNOWN),
                Edges.court(Court.Kind.NO_TONGUES, UNKNOWN), Edges.argument(1, 2, OUTSIDE));
    }

    private static void hands() {
        check.part("promise 11, edges");
        int[] base = {0, 0, 0, Court.HANDS, 1, 0, 3, 0};
        edges.cells("hands", base, 3, 11);
        edges.range("hands", 0, 0, 1, ToldOver.LOST, base);
        edges.range("hands", 1, 0, 2, ToldOver.LOST, base);
        edges.range("hands", 2, 0, 3, ToldOver.LOST, base);
        edges.range("hands", 7, 0, 1, ToldOver.LOST, base);
        edges.taken("hands", 0, 0, 0, Court.HANDS, 1, 0, 1, 0);
        edges.taken("hands", 0, 0, 0, Court.HANDS, 1, 1, 8, 0);
        edges.refused(0, 0, "hands", 0, 0, 0, Court.HANDS, 1, 0, 0, 0);
        edges.refused(0, 0, "hands", 0, 0, 0, Court.HANDS, 1, 11, 0, 0);
        edges.refused(0, 0, "hands", 0, 0, 0, Court.HANDS, 1, 0, 9, 0);
        edges.taken("hands", 0, 0, 0, Court.HANDS, 1, 8, 1, 0);
        edges.refused(0, 0, "hands", 0, 0, 0, Court.HANDS, 1, 8, 2, 0);
        edges.refused(0, 0, "hands", 0, 0, 0, Court.HANDS, 1, 9, 1, 0);
        edges.refused(0, 0, "hands", 0, 0, 0, Court.HANDS, 1, 10, 1, 0);
        edges.order("hands", base,
                Edges.argument(1, 3, 0), Edges.argument(2, 4, 0), Edges.argument(3, 4, 0),
                Edges.argument(0, 2, 0), Edges.argument(4, 3, 0),
                Edges.ahead("row", x -> x.sheet(Court.HANDS, 2, 11), 0, CAST),
                Edges.ahead("row", x -> x.lose(Court.HANDS), 0, NULL),
                Edges.faulty(6, -1, SIZE),
                Edges.faulty(5, -1, INDEX), Edges.faulty(5, 12, INDEX), Edges.faulty(6, 12, INDEX),
                Edges.argument(6, 0, 0), Edges.argument(6, 9, 0),
                Edges.ahead("cell", x -> x.put(Court.HANDS, 0, 3), 0, 0),
                Edges.argument(7, 2, 0));
        edges.order("hands", base, Edges.court(Court.Kind.NO_TONGUES, 0), Edges.faulty(6, -1, SIZE));
    }

    private static void witness() {
        check.part("promise 12, edges");
        int[] base = {Court.TEXTS, 0, TEXT, WITNESS};
        edges.cells("witness", base, 0, TEXT + WITNESS);
        edges.taken("witness", base);
        edges.refused(-100 - (WITNESS - 1), 0, "witness", Court.TEXTS, 0, TEXT, WITNESS - 1);
        edges.refused(-100, 0, "witness", Court.TEXTS, 0, TEXT - 1, WITNESS);
        edges.refused(-100, 0, "witness", Court.TEXTS, 0, TEXT + WITNESS, 0);
        edges.order("witness", base,
                Edges.argument(0, 4, UNKNOWN),
                Edges.argument(1, 3, OUTSIDE),
                Edges.court(Court.Kind.NO_TONGUES, STATE),
                Edges.ahead("row", x -> x.sheet(Court.TEXTS, 1, TEXT + WITNESS), -10 - CAST, CAST),
                Edges.ahead("row", x -> x.lose(Court.TEXTS), -10 - NULL, NULL),
                Edges.faulty(3, -1, SIZE),
                Edges.faulty(2, -1, INDEX),
                Edges.faulty(3, WITNESS + 1, INDEX),
                Edges.ahead("text", x -> x.put(Court.TEXTS, TEXT + 1, 0), -101, 0));
        ToldOver x = Court.open(Court.Kind.NO_WITNESS);
        check.due("the first", x.witness(Court.TEXTS, 0, TEXT, WITNESS), 1);
        x = Court.open(Court.Kind.FULL);
        check.due("another", x.witness(Court.TEXTS, 0, TEXT, WITNESS), 1);
        check.due("no TURNS then", x.many(3), 0);
        check.due("the next is the first", x.turn(0, 0, 0, 0, 1), 0);
    }

    private static void hearing() {
        check.part("promise 13, edges");
        edges.range("answers", 0, 0, 2, UNKNOWN, 0, 0);
        edges.range("answers", 1, 0, 3, UNKNOWN, 0, 0);
        edges.order("answers", new int[] {0, 0}, Edges.argument(0, 3, UNKNOWN), Edges.argument(1, 4, UNKNOWN),
                Edges.court(Court.Kind.NO_WITNESS, STATE));
        edges.order("answers", new int[] {0, 0}, Edges.court(Court.Kind.NO_TONGUES, UNKNOWN));
        check.part("promise 14, edges");
        hears("heard", 3);
        check.part("promises 15 and 16, edges");
        hears("reached", 2);
        hears("said", 2);
        check.part("promise 17, edges");
        edges.range("over", 0, 0, 2, ToldOver.LOST, 0, 0, 0);
        edges.range("over", 1, 0, 2, ToldOver.LOST, 0, 0, 0);
        edges.range("over", 2, 0, 1, ToldOver.LOST, 0, 0, 0);
        edges.order("over", new int[] {0, 0, 0}, Edges.court(Court.Kind.NO_WITNESS, ToldOver.LOST));
        edges.order("over", new int[] {0, 0, 0}, Edges.court(Court.Kind.NO_TONGUES, ToldOver.LOST));
    }

    private static void hears(String name, int last) {
        int[] base = {0, 0, 0, 0};
        edges.range(name, 0, 0, 2, ToldOver.LOST, base);
        edges.range(name, 1, 0, 2, ToldOver.LOST, base);
        edges.range(name, 2, 0, last, ToldOver.LOST, base);
        edges.range(name, 3, 0, 1, ToldOver.LOST, base);
        edges.order(name, base, Edges.court(Court.Kind.NO_WITNESS, ToldOver.LOST));
        edges.order(name, base, Edges.court(Court.Kind.NO_TONGUES, ToldOver.LOST));
    }

    /** One of twelve times by the one way is enough for what is else never heard. */
    private static void neverHeard() {
        check.part("promises 14 to 16, what is never heard");
        ToldOver x = new ToldOver();
        x.interpreter(0, 9);
        Check.tongues(x, "w2;90;09;b;90;09");
        Check.witness(x, "v;90;09;p0");
        check.share("heard never", x.heard(0, 0, 1, 0), x.heard(0, 0, 1, 1), 0, 1);
        check.due("reached", x.reached(0, 0, 1, 0), ToldOver.LOST);
        check.due("said", x.said(0, 0, 1, 1), ToldOver.LOST);
        check.due("reached by what is heard", x.reached(0, 0, 0, 0), 1);
        Check.witness(x, "v;91;09;p0");
        // By 9 TIRED 3/12 of 9/12 go there, 3/12 of 9/12 come home: 27/144 * 12/144 * 27/144.
        check.share("heard now and then", x.heard(0, 0, 1, 0), x.heard(0, 0, 1, 1), 3, 1024);
        check.share("reached", x.reached(0, 0, 1, 0), x.reached(0, 0, 1, 1), 1, 1);
        check.share("said", x.said(0, 0, 1, 0), x.said(0, 0, 1, 1), 1, 1);
        Check.tongues(x, "w2;90;90;b;90;90");
        Check.witness(x, "v;90;09;p9");
        check.due("never heard, though said", x.said(0, 1, 1, 0), ToldOver.LOST);
        Check.tongues(x, "w2;90;90;b;90;91");
        Check.witness(x, "v;09;09;p0");
        check.share("heard, but by no WORD MEANT", x.said(0, 1, 1, 0), x.said(0, 1, 1, 1), 0, 1);
        check.share("MEANT had reached", x.reached(0, 1, 1, 0), x.reached(0, 1, 1, 1), 1, 1);
        Check.tongues(x, "w2;91;90;b;90;91");
        Check.witness(x, "v;90;09;p0");
        check.share("MEANT had not reached", x.reached(0, 0, 1, 0), x.reached(0, 0, 1, 1), 0, 1);
    }

    private static void ask() {
        check.part("promise 18, edges");
        edges.range("ask", 0, 0, 2, UNKNOWN, 0, 1);
        edges.range("ask", 1, 0, 7, OUTSIDE, 0, 1);
        edges.order("ask", new int[] {0, 7}, Edges.argument(0, 3, UNKNOWN), Edges.argument(1, 8, OUTSIDE),
                Edges.court(Court.Kind.NO_WITNESS, STATE));
        edges.refused(Court.Kind.NO_TONGUES, x -> { }, STATE, 0, "ask", 0, 0);
        edges.refused(Court.Kind.NO_TONGUES, x -> { }, OUTSIDE, 0, "ask", 0, 1);
        ToldOver x = Court.open(Court.Kind.WHOLE);
        for (int word = 0; word < 3; word++) {
            check.due("of one", x.ask(0, 1 << word), word);
        }
        check.due("of none", x.ask(0, 0), ToldOver.NONE);
        check.due("a bit of a WORD and one of none", x.ask(0, 9), OUTSIDE);
        check.due("all bits", x.ask(0, -1), OUTSIDE);
        check.due("the sign alone", x.ask(0, Integer.MIN_VALUE), OUTSIDE);
        check.due("the sign and a WORD", x.ask(0, Integer.MIN_VALUE | 1), OUTSIDE);
        never(x);
    }

    /** A question that never gets over is still one of the set. */
    private static void never(ToldOver x) {
        Check.tongues(x, "w2;90;90;b;90;09");
        Check.witness(x, "v;10;10;p0");
        x.tire(0, 9);
        check.due("of several the least", x.ask(0, 3), 0);
        check.due("the other one alone", x.ask(0, 2), 1);
        Check.tongues(x, "w6;900000;090000;009000;000900;000090;000009;b;900000;090000;009000;000900;000090;000009");
        Check.witness(x, "v;900000;900000;900000;900000;900000;900000;p0");
        check.due("six alike", x.ask(0, 63), 0);
        check.due("the last of six", x.ask(0, 32), 5);
        check.due("a seventh", x.ask(0, 64), OUTSIDE);
    }
}
