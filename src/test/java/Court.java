import java.util.ArrayList;
import java.util.List;

/**
 * One court in a known state, made anew for each edge that is tried: three WORDS, three INTERPRETERS
 * (a KIN by 0, a TRAINED by 3, a SWORN one by 9), a WITNESS, two TURNS, and three SHEETS of four.
 */
final class Court {
    static final String TONGUES = "w3;930;048;262;b;444;093;801", WITNESS = "v;930;048;111;p2";
    static final int TEXTS = 0, HANDS = 1, BOOTH = 2, NOTHING = 3;
    private static final int[] LENGTHS = {TONGUES.length() + WITNESS.length(), 11, 11, 5};

    /** What the court has: WHOLE, or less, or as much as there may be. */
    enum Kind { WHOLE, NO_TONGUES, NO_WITNESS, FULL }

    private Court() {
    }

    static ToldOver open(Kind kind) {
        ToldOver x = new ToldOver();
        Check.write(x, TEXTS, 0, TONGUES + WITNESS);
        Check.row(x, HANDS, 1, 0, 1, 2, 0, 1, 2, 0, 1, 2, 3, -1);
        Check.row(x, BOOTH, 2, 0, 1, 2, 3, 4, 5, 6, 7, 8, 9, 9);
        x.interpreter(0, 0);
        x.interpreter(1, 3);
        x.interpreter(2, 9);
        x.tell(1);
        if (kind != Kind.NO_TONGUES) {
            x.tongues(TEXTS, 0, 0, TONGUES.length());
        }
        if (kind == Kind.WHOLE || kind == Kind.FULL) {
            x.witness(TEXTS, 0, TONGUES.length(), WITNESS.length());
            x.turn(0, 0, 0, 5, 3);
            x.turn(1, 1, 2, 9, 9);
        }
        if (kind == Kind.FULL) {
            x.interpreter(0, 5);
            for (int t = 2; t < 6; t++) {
                x.turn(0, 1, 1, t, t);
            }
        }
        return x;
    }

    /** So that fault() is 0, or 4: by calls that change nothing else. */
    static void leaveFault(ToldOver x, int fault) {
        if (fault == 0) {
            x.put(-1, 0, 0);
        } else {
            x.sheet(0, 0, -1);
        }
    }

    static boolean namesFaults(String name) {
        return List.of("tongues", "hands", "witness", "booth", "sheet", "put", "cell", "copy", "as").contains(name);
    }

    static boolean answersLong(String name) {
        return List.of("hands", "heard", "reached", "said", "over", "wrong", "cell").contains(name);
    }

    static long call(ToldOver x, String name, int... a) {
        return switch (name) {
            case "tongues" -> x.tongues(a[0], a[1], a[2], a[3]);
            case "becomes" -> x.becomes(a[0], a[1], a[2]);
            case "meant" -> x.meant(a[0], a[1]);
            case "alike" -> x.alike(a[0], a[1]);
            case "interpreter" -> x.interpreter(a[0], a[1]);
            case "ofInterpreter" -> x.ofInterpreter(a[0], a[1]);
            case "tire" -> x.tire(a[0], a[1]);
            case "carries" -> x.carries(a[0], a[1], a[2], a[3]);
            case "returns" -> x.returns(a[0], a[1], a[2]);
            case "hands" -> x.hands(a[0], a[1], a[2], a[3], a[4], a[5], a[6], a[7]);
            case "witness" -> x.witness(a[0], a[1], a[2], a[3]);
            case "answers" -> x.answers(a[0], a[1]);
            case "heard" -> x.heard(a[0], a[1], a[2], a[3]);
            case "reached" -> x.reached(a[0], a[1], a[2], a[3]);
            case "said" -> x.said(a[0], a[1], a[2], a[3]);
            case "over" -> x.over(a[0], a[1], a[2]);
            case "ask" -> x.ask(a[0], a[1]);
            case "turn" -> x.turn(a[0], a[1], a[2], a[3], a[4]);
            default -> callOfTurnsAndParts(x, name, a);
        };
    }

    private static long callOfTurnsAndParts(ToldOver x, String name, int... a) {
        return switch (name) {
            case "ofTurn" -> x.ofTurn(a[0], a[1]);
            case "back" -> x.back(a[0]);
            case "wrong" -> x.wrong(a[0], a[1]);
            case "again" -> x.again(a[0]);
            case "shifts" -> x.shifts(a[0], a[1], a[2], a[3], a[4]);
            case "booth" -> x.booth(a[0], a[1], a[2], a[3], a[4]);
            case "sheet" -> x.sheet(a[0], a[1], a[2]);
            case "lose" -> x.lose(a[0]);
            case "put" -> x.put(a[0], a[1], a[2]);
            case "cell" -> x.cell(a[0], a[1], a[2]);
            case "copy" -> x.copy(a[0], a[1], a[2], a[3], a[4]);
            case "tell" -> x.tell(a[0]);
            case "pay" -> x.pay(a[0]);
            case "as" -> x.as(a[0], a[1]);
            case "many" -> x.many(a[0]);
            default -> throw new IllegalArgumentException(name);
        };
    }

    /** All that can be seen of a court but fault(); some 200 calls. */
    static List<Long> seen(ToldOver x) {
        List<Long> seen = new ArrayList<>();
        for (int what = 0; what < 5; what++) {
            seen.add((long) x.many(what));
        }
        seen.add((long) x.trace());
        for (int word = 0; word < 3; word++) {
            for (int to = 0; to <= 3; to++) {
                seen.add((long) x.becomes(0, word, to));
                seen.add((long) x.becomes(1, word, to));
                seen.add((long) x.answers(word, to));
            }
            seen.add((long) x.meant(0, word));
            seen.add((long) x.meant(1, word));
        }
        for (int who = 0; who < 4; who++) {
            seen.add((long) x.ofInterpreter(who, 0));
            seen.add((long) x.ofInterpreter(who, 1));
        }
        for (int k = 0; k < 36; k++) {
            seen.add((long) x.ofTurn(k / 6, k % 6));
        }
        for (int k = 0; k < 4; k++) {
            seeSheet(x, k, seen);
        }
        return seen;
    }

    private static void seeSheet(ToldOver x, int k, List<Long> seen) {
        int sort = 0;
        for (int s = 0; s < 3; s++) {
            seen.add(x.cell(k, 0, s));
            int fault = x.fault();
            seen.add((long) fault);
            sort = fault == 0 ? s : sort;
        }
        for (int i = 0; i <= LENGTHS[k]; i++) {
            seen.add(x.cell(k, i, sort));
            seen.add((long) x.fault());
        }
    }
}
