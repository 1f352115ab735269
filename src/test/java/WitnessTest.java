/** Promises 12 to 18: witness, answers, heard, reached, said, over, ask. */
public final class WitnessTest {
    private static final Check check = new Check();
    private static final String TONGUES = "w2;93;21;b;55;09", WITNESS = "v;63;07;p2";
    private static final int MIN = Integer.MIN_VALUE, MAX = Integer.MAX_VALUE;

    public static void main(String[] args) {
        texts();
        refusals();
        answers();
        heard();
        reached();
        said();
        over();
        ask();
        check.end("WitnessTest");
    }

    private static ToldOver court() {
        ToldOver x = new ToldOver();
        x.interpreter(0, 0);
        x.interpreter(1, 3);
        x.interpreter(2, 9);
        Check.tongues(x, TONGUES);
        Check.witness(x, WITNESS);
        return x;
    }

    private static void texts() {
        check.part("promise 12, texts");
        faultAt("", 0);
        faultAt("w;63;07;p2", 0);
        faultAt("v", 1);
        faultAt("v63;07;p2", 1);
        faultAt("v;63;07;p", 9);
        faultAt("v;63;07;b2", 8);
        faultAt("v;63;07p2", 7);
        faultAt("v;67;07;p2", 3);
        faultAt("v;00;07;p2", 3);
        faultAt("v;63;00;p2", 6);
        faultAt("v;63;07;px", 9);
        faultAt("v;63;07;p:", 9);
        faultAt("v;63;07;p20", 10);
        faultAt("v;63;07;07;p2", 8);
        faultAt("v;633;077;077;p2", 4);
        ToldOver x = court();
        check.due("please 0", Check.witness(x, "v;93;39;p0"), 1);
        check.due("please", x.many(4), 0);
        check.due("please 9", Check.witness(x, "v;01;10;p9"), 1);
        check.due("please", x.many(4), 9);
        Check.tongues(x, "w3;444;930;001;b;100;010;093");
        check.due("for three", Check.witness(x, "v;444;930;001;p3"), 1);
        check.due("two for three", Check.witness(x, WITNESS), -104);
        check.due("please stays", x.many(4), 3);
    }

    private static void faultAt(String text, int place) {
        ToldOver x = court();
        x.turn(0, 0, 0, 1, 1);
        Check.write(x, 1, 2, "##" + text + "#");
        check.due("witness of " + text, x.witness(1, 2, 2, text.length()), -100 - place);
        check.due("fault of " + text, x.fault(), 0);
        check.due("witness stays", x.answers(0, 0), 84);
        check.due("please stays", x.many(4), 2);
        check.due("turns stay", x.many(3), 1);
    }

    private static void refusals() {
        check.part("promise 12, refusals and faults");
        ToldOver x = new ToldOver();
        check.due("sheet", x.witness(4, 3, 0, 0), ToldOver.UNKNOWN);
        check.due("sheet", x.witness(-1, 3, 0, 0), ToldOver.UNKNOWN);
        check.due("sort", x.witness(0, 3, 0, 0), ToldOver.OUTSIDE);
        check.due("no tongues, nothing there", x.witness(0, 0, 0, -1), ToldOver.STATE);
        check.due("fault", x.fault(), 0);
        Check.tongues(x, TONGUES);
        check.due("null", x.witness(0, 0, -1, -1), -11);
        check.due("fault", x.fault(), 1);
        Check.write(x, 0, 1, WITNESS);
        check.due("cast", x.witness(0, 0, -1, -1), -12);
        check.due("size", x.witness(0, 1, -1, -1), -14);
        check.due("index", x.witness(0, 1, 1, 10), -13);
        check.due("index", x.witness(0, 1, MAX, MAX), -13);
        check.due("index of none", x.witness(0, 1, 11, 0), -13);
        check.due("fault", x.fault(), 3);
        check.due("none at the end", x.witness(0, 1, 10, 0), -100);
        check.due("no witness yet", x.many(2), 0);
        check.due("witness", x.witness(0, 1, 0, 10), 1);
        check.due("a witness", x.many(2), 1);
        x.interpreter(0, 0);
        x.turn(0, 0, 0, 1, 1);
        check.due("turn", x.many(3), 1);
        check.due("again", x.witness(0, 1, 0, 10), 1);
        check.due("no turns then", x.many(3), 0);
    }

    private static void answers() {
        check.part("promise 13");
        ToldOver x = court();
        int[][] times = {{84, 30, 30}, {24, 70, 50}};
        for (int word = 0; word < 2; word++) {
            for (int to = 0; to < 3; to++) {
                check.due("answers " + word + to, x.answers(word, to), times[word][to]);
            }
        }
        check.due("word", x.answers(2, 0), ToldOver.UNKNOWN);
        check.due("word", x.answers(-1, 0), ToldOver.UNKNOWN);
        check.due("to", x.answers(0, 3), ToldOver.UNKNOWN);
        check.due("to", x.answers(0, -1), ToldOver.UNKNOWN);
        Check.witness(x, "v;01;10;p9");
        check.due("pleases", x.answers(0, 0), 108);
        check.due("pleases", x.answers(0, 1), 3);
        check.due("silent", x.answers(0, 2), 33);
        Check.tongues(x, TONGUES);
        check.due("no witness", x.answers(1, 2), ToldOver.STATE);
        check.due("word ahead of state", x.answers(2, 2), ToldOver.UNKNOWN);
    }

    private static void heard() {
        check.part("promise 14");
        ToldOver x = court();
        check.share("0", x.heard(0, 0, 0, 0), x.heard(0, 0, 0, 1), 115, 576);
        check.share("1", x.heard(0, 0, 1, 0), x.heard(0, 0, 1, 1), 235, 576);
        check.share("nothing", x.heard(0, 0, 2, 0), x.heard(0, 0, 2, 1), 113, 288);
        // There 33 and 3 of 144, home 30 and 6, 0 and 36: 33 * 84 * 30 + 3 * 24 * 30 of 144 * 144 * 144.
        check.share("sworn", x.heard(2, 0, 0, 0), x.heard(2, 0, 0, 1), 395, 13824);
        for (int which = -1; which <= 2; which += 3) {
            check.due("which", x.heard(0, 0, 0, which), ToldOver.LOST);
        }
        check.due("who", x.heard(3, 0, 0, 0), ToldOver.LOST);
        check.due("who", x.heard(-1, 0, 0, 0), ToldOver.LOST);
        check.due("word", x.heard(0, 2, 0, 0), ToldOver.LOST);
        check.due("word", x.heard(0, -1, 0, 0), ToldOver.LOST);
        check.due("heard", x.heard(0, 0, 3, 0), ToldOver.LOST);
        check.due("heard", x.heard(0, 0, -1, 0), ToldOver.LOST);
        check.due("extremes", x.heard(MIN, MAX, MIN, MAX), ToldOver.LOST);
        Check.witness(x, "v;01;01;p0");
        check.share("never", x.heard(0, 0, 0, 0), x.heard(0, 0, 0, 1), 0, 1);
        Check.tongues(x, TONGUES);
        check.due("no witness", x.heard(0, 0, 0, 0), ToldOver.LOST);
    }

    private static void reached() {
        check.part("promise 15");
        ToldOver x = court();
        check.share("0", x.reached(0, 0, 0, 0), x.reached(0, 0, 0, 1), 21, 23);
        check.share("1", x.reached(0, 0, 1, 0), x.reached(0, 0, 1, 1), 69, 94);
        x.tire(0, 9);
        check.share("tired", x.reached(0, 0, 1, 0), x.reached(0, 0, 1, 1), 69, 94);
        // 33 * (84 * 6 + 30 * 36) against 3 * (24 * 6 + 70 * 36)
        check.share("sworn", x.reached(2, 0, 1, 0), x.reached(2, 0, 1, 1), 242, 279);
        lostAsReached(x);
    }

    private static void said() {
        check.part("promise 16");
        ToldOver x = court();
        check.share("0", x.said(0, 0, 0, 0), x.said(0, 0, 0, 1), 1, 1);
        check.share("1", x.said(0, 0, 1, 0), x.said(0, 0, 1, 1), 24, 47);
        Check.tongues(x, "w2;75;39;b;84;48");
        Check.witness(x, "v;90;09;p0");
        check.share("court's 0", x.said(0, 0, 0, 0), x.said(0, 0, 0, 1), 14, 19);
        check.share("court's 1", x.said(0, 1, 0, 0), x.said(0, 1, 0, 1), 2, 5);
        Check.tongues(x, "w2;75;39;b;84;84");
        Check.witness(x, "v;90;09;p0");
        check.share("1 is never meant", x.said(0, 0, 1, 0), x.said(0, 0, 1, 1), 0, 1);
        x = court();
        check.due("which", x.said(0, 0, 0, 2), ToldOver.LOST);
        check.due("which", x.said(0, 0, 0, -1), ToldOver.LOST);
        check.due("heard", x.said(0, 0, 2, 0), ToldOver.LOST);
        check.due("heard", x.said(0, 0, -1, 0), ToldOver.LOST);
        check.due("word", x.said(0, 2, 0, 0), ToldOver.LOST);
        check.due("who", x.said(3, 0, 0, 0), ToldOver.LOST);
        Check.witness(x, "v;01;01;p0");
        check.due("never heard", x.said(0, 0, 0, 0), ToldOver.LOST);
        Check.tongues(x, TONGUES);
        check.due("no witness", x.said(0, 0, 1, 0), ToldOver.LOST);
    }

    private static void lostAsReached(ToldOver x) {
        check.due("which", x.reached(0, 0, 0, 2), ToldOver.LOST);
        check.due("which", x.reached(0, 0, 0, -1), ToldOver.LOST);
        check.due("heard", x.reached(0, 0, 2, 0), ToldOver.LOST);
        check.due("heard", x.reached(0, 0, -1, 0), ToldOver.LOST);
        check.due("word", x.reached(0, 2, 0, 0), ToldOver.LOST);
        check.due("who", x.reached(3, 0, 0, 0), ToldOver.LOST);
        Check.witness(x, "v;01;01;p0");
        check.due("never heard", x.reached(0, 0, 0, 0), ToldOver.LOST);
        check.due("heard all the same", x.reached(0, 0, 1, 0), 3);
        Check.tongues(x, TONGUES);
        check.due("no witness", x.reached(0, 0, 1, 0), ToldOver.LOST);
    }

    private static void over() {
        check.part("promise 17");
        ToldOver x = court();
        check.share("0", x.over(0, 0, 0), x.over(0, 0, 1), 115, 384);
        check.share("1", x.over(0, 1, 0), x.over(0, 1, 1), 115, 1728);
        x.tire(0, 6);
        check.share("tired", x.over(0, 0, 0), x.over(0, 0, 1), 115, 1536);
        check.due("which", x.over(0, 0, 2), ToldOver.LOST);
        check.due("which", x.over(0, 0, -1), ToldOver.LOST);
        check.due("word", x.over(0, 2, 0), ToldOver.LOST);
        check.due("word", x.over(0, -1, 0), ToldOver.LOST);
        check.due("who", x.over(3, 0, 0), ToldOver.LOST);
        Check.tongues(x, TONGUES);
        check.due("no witness", x.over(0, 0, 0), ToldOver.LOST);
    }

    private static void ask() {
        check.part("promise 18");
        ToldOver x = court();
        check.due("of both", x.ask(0, 3), 0);
        check.due("of one", x.ask(0, 2), 1);
        check.due("of none", x.ask(0, 0), ToldOver.NONE);
        check.due("a bit of no word", x.ask(0, 4), ToldOver.OUTSIDE);
        check.due("a bit of no word", x.ask(0, 7), ToldOver.OUTSIDE);
        check.due("the highest bit", x.ask(0, MIN), ToldOver.OUTSIDE);
        check.due("all bits", x.ask(0, -1), ToldOver.OUTSIDE);
        check.due("who", x.ask(3, 4), ToldOver.UNKNOWN);
        check.due("who", x.ask(-1, 4), ToldOver.UNKNOWN);
        Check.tongues(x, "w2;55;57;b;90;09");
        Check.witness(x, "v;66;66;p0");
        check.due("the greatest", x.ask(0, 3), 1);
        check.due("of several the least, by a sworn one", x.ask(2, 3), 0);
        Check.tongues(x, "w3;750;057;705;b;900;090;009");
        Check.witness(x, "v;660;660;660;p0");
        check.due("of several the least", x.ask(0, 7), 0);
        check.due("of several the least", x.ask(0, 6), 1);
        Check.tongues(x, TONGUES);
        check.due("outside ahead of state", x.ask(0, 4), ToldOver.OUTSIDE);
        check.due("no witness", x.ask(0, 0), ToldOver.STATE);
    }
}
