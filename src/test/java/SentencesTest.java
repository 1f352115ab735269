import java.io.IOException;
import java.lang.reflect.Field;
import java.lang.reflect.Method;
import java.lang.reflect.Modifier;
import java.nio.file.Files;
import java.nio.file.Path;
import java.util.Arrays;
import java.util.List;
import java.util.Set;
import java.util.TreeSet;
import java.util.regex.Matcher;
import java.util.regex.Pattern;

/** Sentences of the document that no other test holds by themselves, from its first line on. */
public final class SentencesTest {
    private static final Check check = new Check();
    private static final Path DOCUMENT = Path.of("../shared/DOC.md");
    private static final int USED_FOR = 512, WORDS = 3;

    public static void main(String[] args) throws IOException {
        String document = Files.readString(DOCUMENT);
        faceIsTheDocuments(document);
        constantsAreTheDocuments(document);
        promisesAreOfTheFace(document);
        usedFor512Calls();
        laterCallsDoNotThrow();
        objectsAreApart();
        twelveAndGrossAddUp();
        sharesAddUp();
        tiredLeavesSharesOfHeardAlike();
        askingChangesNothing();
        turnsAreNumberedAnew();
        numbersStay();
        check.end("SentencesTest");
    }

    // ---- the public face

    private static String face(String document) {
        Matcher m = Pattern.compile("(?ms)^## The public face$.*?^```java$(.*?)^```$").matcher(document);
        check.holds("the document has a face", m.find());
        return m.group(1);
    }

    private static Set<String> shown() {
        Set<String> shown = new TreeSet<>();
        for (Method m : ToldOver.class.getDeclaredMethods()) {
            if (Modifier.isPublic(m.getModifiers())) {
                check.holds(m.getName() + " is not static", !Modifier.isStatic(m.getModifiers()));
                check.due(m.getName() + " tells no exceptions", m.getExceptionTypes().length, 0);
                shown.add(m.getReturnType() + " " + m.getName() + Arrays.toString(m.getParameterTypes()));
            }
        }
        return shown;
    }

    private static Set<String> asked(String text, String form) {
        Set<String> asked = new TreeSet<>();
        Matcher m = Pattern.compile(form).matcher(text);
        while (m.find()) {
            String types = m.group(3).replaceAll("(\\w+) \\w+", "$1");
            asked.add(m.group(1) + " " + m.group(2) + "[" + types + "]");
        }
        return asked;
    }

    private static void faceIsTheDocuments(String document) {
        check.part("the public face");
        Set<String> asked = asked(face(document), "public (int|long) (\\w+)\\((.*?)\\);");
        check.due("calls", asked.size(), 35);
        check.holds("just the document's calls: " + asked, asked.equals(shown()));
        check.holds("public", Modifier.isPublic(ToldOver.class.getModifiers()));
        check.holds("final", Modifier.isFinal(ToldOver.class.getModifiers()));
        check.due("public classes inside", ToldOver.class.getClasses().length, 0);
    }

    private static void constantsAreTheDocuments(String document) {
        check.part("the public face, constants");
        Set<String> asked = new TreeSet<>();
        Matcher line = Pattern.compile("public static final (int|long) (.*?);").matcher(face(document));
        while (line.find()) {
            for (String one : line.group(2).split(", ")) {
                String[] sides = one.split(" = ");
                long value = sides[1].equals("Long.MIN_VALUE") ? Long.MIN_VALUE : Long.parseLong(sides[1]);
                asked.add(line.group(1) + " " + sides[0] + " " + value);
            }
        }
        Set<String> shown = new TreeSet<>();
        for (Field f : ToldOver.class.getFields()) {
            check.holds(f.getName() + " is a constant",
                    Modifier.isStatic(f.getModifiers()) && Modifier.isFinal(f.getModifiers()));
            shown.add(f.getType() + " " + f.getName() + " " + constant(f));
        }
        check.due("constants", asked.size(), 6);
        check.holds("just the document's constants: " + shown, shown.equals(asked));
    }

    private static long constant(Field f) {
        try {
            return ((Number) f.get(null)).longValue();
        } catch (IllegalAccessException e) {
            throw new IllegalStateException(e);
        }
    }

    private static void promisesAreOfTheFace(String document) {
        check.part("promises 2 to 36");
        Set<String> promised = asked(document, "(?m)^`(int|long) (\\w+)\\((.*?)\\)`:");
        check.due("promises", promised.size(), 35);
        check.holds("each call of the face is promised", promised.equals(shown()));
    }

    // ---- at most 512 calls

    /** As dear and as changing a run as there may be: each of the 512 answers is looked at. */
    private static void usedFor512Calls() {
        check.part("512 calls");
        Both both = new Both(check);
        both.write(0, 0, Court.TONGUES);
        both.call("tongues", 0, 0, 0, Court.TONGUES.length());
        both.write(1, 1, Court.WITNESS);
        both.call("witness", 1, 1, 0, Court.WITNESS.length());
        for (int kind = 0; kind < 4; kind++) {
            both.call("interpreter", kind % 3, 3 * kind);
        }
        for (int k = 0; both.calls() < USED_FOR; k++) {
            oneOfMany(both, k);
        }
        check.due("calls", both.calls(), USED_FOR);
    }

    private static void oneOfMany(Both both, int k) {
        switch (k % 12) {
            case 0 -> both.call("turn", k % 4, k % WORDS, 0, 9, 9);
            case 1 -> both.call("wrong", k % 8, 1);
            case 2 -> both.call("again", k % 61);
            case 3 -> both.call("shifts", k % 4, (k + 1) % 4, 40, k % 10, 39);
            case 4 -> both.call("sheet", 2 + k % 2, k % 3, 120);
            case 5 -> both.call("put", 2, 119, k * k * k);
            case 6 -> both.call("tell", 2);
            case 7 -> both.call("trace");
            case 8 -> both.call("tire", k % 4, k % 10);
            case 9 -> both.call("heard", k % 4, k % WORDS, k % 4, 1);
            case 10 -> both.call("back", both.call("many", 3) == 6 ? 6 : 0);
            default -> both.call("fault");
        }
    }

    private static ToldOver other() {
        return Court.open(Court.Kind.WHOLE);
    }

    /** What they answer is free; but no call may ever throw. */
    private static void laterCallsDoNotThrow() {
        check.part("calls behind the 512th");
        ToldOver x = Court.open(Court.Kind.FULL);
        for (int k = 0; k < 5 * USED_FOR; k++) {
            x.tell(k % 5);
            x.turn(0, 0, 0, 1, 1);
            x.interpreter(0, 0);
            x.sheet(k % 4, k % 3, k % 121);
            x.again(60);
        }
        check.holds("they come to an end", true);
    }

    /** No answer depends on another object, and the same calls give the same answers. */
    private static void objectsAreApart() {
        check.part("objects are apart");
        ToldOver one = Court.open(Court.Kind.WHOLE);
        ToldOver two = Court.open(Court.Kind.WHOLE);
        two.tire(0, 9);
        two.tell(2);
        two.pay(2);
        two.back(2);
        two.lose(Court.TEXTS);
        two.put(Court.BOOTH, 0, 77);
        Check.tongues(two, "w6" + ";111111".repeat(6) + ";b" + ";111111".repeat(6));
        two.as(0, 2);
        int fault = one.fault();
        check.due("fault", fault, other().fault());
        check.holds("the first is as it was", Court.seen(one).equals(Court.seen(other())));
        ToldOver made = new ToldOver();
        check.due("a new one has no words", made.many(0), 0);
        check.due("a new one has no trace", made.trace(), 0);
        check.due("a new one has no fault", made.fault(), 0);
    }

    // ---- terms

    private static void twelveAndGrossAddUp() {
        check.part("1, 2 and 3: what lacks is LEFT OUT, or he is SILENT");
        ToldOver x = Court.open(Court.Kind.WHOLE);
        for (int word = 0; word < WORDS; word++) {
            for (int way = 0; way < 2; way++) {
                int twelve = 0;
                int[] gross = new int[3];
                for (int to = 0; to <= WORDS; to++) {
                    twelve += x.becomes(way, word, to);
                    for (int who = 0; who < 3; who++) {
                        gross[who] += x.carries(who, way, word, to);
                    }
                }
                check.due("twelve", twelve, 12);
                check.holds("144 each", Arrays.equals(gross, new int[] {144, 144, 144}));
            }
            int answers = 0;
            for (int to = 0; to <= WORDS; to++) {
                answers += x.answers(word, to);
            }
            check.due("answers", answers, 144);
        }
    }

    private static void sharesAddUp() {
        check.part("3 and 4: something or NOTHING is heard");
        ToldOver x = Court.open(Court.Kind.WHOLE);
        for (int k = 0; k < 9; k++) {
            double heard = 0;
            double hands = 0;
            for (int to = 0; to <= WORDS; to++) {
                heard += (double) x.heard(k / 3, k % 3, to, 0) / x.heard(k / 3, k % 3, to, 1);
                hands += (double) x.hands(k % 2, k % 3, to, Court.HANDS, 1, k / 3, 6, 0)
                        / x.hands(k % 2, k % 3, to, Court.HANDS, 1, k / 3, 6, 1);
            }
            check.holds("heard " + k + " is one together: " + heard, Math.abs(heard - 1) < 1e-9);
            check.holds("hands " + k + " are one together: " + hands, Math.abs(hands - 1) < 1e-9);
        }
    }

    /** Of all WORDS so TIRED twelfths are LEFT OUT besides: that takes none before another. */
    private static void tiredLeavesSharesOfHeardAlike() {
        check.part("2: of all WORDS so TIRED twelfths");
        for (int kind = 0; kind < 3; kind++) {
            ToldOver x = Court.open(Court.Kind.WHOLE);
            x.interpreter(kind, 0);
            long rested = x.over(3, 1, 0) * 144 * 144 * 144 / x.over(3, 1, 1);
            for (int tired = 0; tired <= 9; tired++) {
                x.tire(3, tired);
                int left = 12 - tired;
                check.due("over by " + tired, x.over(3, 1, 0) * 144 * 144 * 144 / x.over(3, 1, 1),
                        rested * left * left / 144);
                check.due("carries by " + tired, x.carries(3, 0, 1, 2) % left, 0);
            }
        }
    }

    /** Calls that but ask leave all as it is, fault() of those that name none too. */
    private static void askingChangesNothing() {
        check.part("calls that ask");
        int[][] asked = {{0, 0, 0, 0, 0, 0, 0, 0}, {0, 1, 2, 1, 1, 0, 2, 1}, {1, 0, 1, 2, 2, 0, 3, 0}};
        String[] names = {
            "becomes", "meant", "alike", "ofInterpreter", "carries", "returns", "hands", "answers", "heard", "reached",
            "said", "over", "ask", "ofTurn", "wrong", "again", "shifts", "booth", "cell", "as", "many"
        };
        List<Long> before = Court.seen(other());
        for (String name : names) {
            for (int[] a : asked) {
                ToldOver x = other();
                Court.leaveFault(x, 4);
                long first = Court.call(x, name, a);
                check.due(name + " asked for again", Court.call(x, name, a), first);
                if (!Court.namesFaults(name)) {
                    check.due("fault() behind " + name, x.fault(), 4);
                }
                check.holds(name + Arrays.toString(a) + " changes nothing", Court.seen(x).equals(before));
            }
        }
    }

    private static void turnsAreNumberedAnew() {
        check.part("5: numbered by how many there are ahead");
        ToldOver x = other();
        check.due("two are there", x.turn(0, 0, 0, 1, 1), 2);
        check.due("back", x.back(3), 0);
        check.due("the first one is 0", x.turn(0, 1, 0, 1, 1), 0);
        check.due("witness", x.witness(Court.TEXTS, 0, Court.TONGUES.length(), Court.WITNESS.length()), 1);
        check.due("the first one is 0 again", x.turn(0, 2, 0, 1, 1), 0);
        check.due("its question", x.ofTurn(0, 1), 2);
    }

    /** INTERPRETERS stay as TONGUES are made anew, and carry the new WORDS. */
    private static void numbersStay() {
        check.part("1 and 2: INTERPRETERS stay");
        ToldOver x = other();
        check.due("tongues", Check.tongues(x, "w2;93;21;b;55;09"), 2);
        check.due("kin", x.carries(0, 0, 0, 0), 108);
        check.due("trained by 3", x.carries(1, 0, 0, 0), 99);
        check.due("sworn by 9", x.carries(2, 0, 0, 0), 33);
        check.due("the next one", x.interpreter(0, 0), 3);
    }
}
