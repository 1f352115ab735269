import java.io.IOException;
import java.lang.reflect.Constructor;
import java.lang.reflect.Field;
import java.lang.reflect.Method;
import java.lang.reflect.Modifier;
import java.nio.file.Files;
import java.nio.file.Path;
import java.util.Arrays;
import java.util.Set;
import java.util.TreeSet;
import java.util.regex.Matcher;
import java.util.regex.Pattern;

/** The document's face and what can be seen of LANGUAGE.md from outside and in the source's text. */
public final class LanguageTest {
    private static final Check check = new Check();
    private static final String[] FACE = {
        "int tongues 4", "int becomes 3", "int meant 2", "int alike 2", "int interpreter 2", "int ofInterpreter 2",
        "int tire 2", "int carries 4", "int returns 3", "long hands 8", "int witness 4", "int answers 2",
        "long heard 4", "long reached 4", "long said 4", "long over 3", "int ask 2", "int turn 5", "int ofTurn 2",
        "int back 1", "long wrong 2", "int again 1", "int shifts 5", "int booth 5", "int sheet 3", "int lose 1",
        "int put 3", "long cell 3", "int copy 5", "int tell 1", "int pay 1", "int as 2", "int trace 0",
        "int fault 0", "int many 1"
    };
    private static final String[] NEVER = {
        "\\bthrow\\b", "\\bthrows\\b", "\\btry\\b", "\\bcatch\\b", "\\bsynchronized\\b", "\\bassert\\b",
        "->", "::", "\\bpackage\\b", "\\bvolatile\\b", "\\bnative\\b", "Exact\\b", "\\bSystem\\.(?!arraycopy\\b)",
        "\\bprotected\\b", "\\[\\]\\[\\]\\[\\]", "\\bstatic\\s*\\{", "\\bObject\\b", "\\bRandom\\b", "\\bThread\\b"
    };

    public static void main(String[] args) throws IOException {
        face();
        constants();
        nested();
        String source = args.length > 0 ? args[0] : "src/main/java/ToldOver.java";
        text(Files.readString(Path.of(source)));
        check.end("LanguageTest");
    }

    private static void face() {
        check.part("rule 1");
        Set<String> found = new TreeSet<>();
        Set<String> names = new TreeSet<>();
        for (Method m : ToldOver.class.getDeclaredMethods()) {
            if (Modifier.isPublic(m.getModifiers())) {
                found.add(m.getReturnType() + " " + m.getName() + " " + m.getParameterCount());
                names.add(m.getName());
                for (Class<?> type : m.getParameterTypes()) {
                    check.holds(m.getName() + " takes ints", type == int.class);
                }
            } else {
                check.holds(m.getName() + " is private", Modifier.isPrivate(m.getModifiers()));
            }
        }
        check.holds("the face is the document's: " + found, found.equals(new TreeSet<>(Arrays.asList(FACE))));
        for (Class<?> c : ToldOver.class.getDeclaredClasses()) {
            for (Method m : c.getDeclaredMethods()) {
                check.holds(m.getName() + " is not the name of a public one", !names.contains(m.getName()));
            }
        }
        Constructor<?>[] made = ToldOver.class.getDeclaredConstructors();
        check.due("constructors", made.length, 1);
        check.holds("public", Modifier.isPublic(made[0].getModifiers()) && made[0].getParameterCount() == 0);
        check.holds("final", Modifier.isFinal(ToldOver.class.getModifiers()));
    }

    private static void constants() {
        check.part("constants");
        check.due("UNKNOWN", ToldOver.UNKNOWN, -1);
        check.due("OUTSIDE", ToldOver.OUTSIDE, -2);
        check.due("STATE", ToldOver.STATE, -3);
        check.due("FULL", ToldOver.FULL, -4);
        check.due("NONE", ToldOver.NONE, -9);
        check.due("LOST", ToldOver.LOST, Long.MIN_VALUE);
        int shown = 0;
        for (Field f : ToldOver.class.getDeclaredFields()) {
            boolean isPublic = Modifier.isPublic(f.getModifiers());
            shown += isPublic ? 1 : 0;
            check.holds(f.getName() + " is public or private", isPublic || Modifier.isPrivate(f.getModifiers()));
        }
        check.due("public ones", shown, 6);
    }

    private static void nested() {
        check.part("rules 2, 5, 11");
        Class<?>[] classes = ToldOver.class.getDeclaredClasses();
        check.holds("at most some twelve classes", classes.length < 12);
        fields(ToldOver.class);
        for (Class<?> c : classes) {
            check.holds(c.getSimpleName() + " is static", Modifier.isStatic(c.getModifiers()));
            check.holds(c.getSimpleName() + " is not public", !Modifier.isPublic(c.getModifiers()));
            fields(c);
            for (Method m : c.getDeclaredMethods()) {
                check.holds(m.getName() + " takes seven at most", m.getParameterCount() <= 7);
            }
        }
    }

    private static void fields(Class<?> c) {
        int own = 0;
        for (Field f : c.getDeclaredFields()) {
            if (Modifier.isStatic(f.getModifiers())) {
                check.holds(f.getName() + " is final", Modifier.isFinal(f.getModifiers()));
            } else {
                own++;
            }
        }
        check.holds(c.getSimpleName() + " has some twenty fields at most", own <= 20);
    }

    private static void text(String source) {
        check.part("rules 3 to 6, 10");
        String bare = source.replaceAll("(?s)/\\*.*?\\*/", " ").replaceAll("//[^\n]*", " ");
        for (String never : NEVER) {
            Matcher m = Pattern.compile(never).matcher(bare);
            check.holds("nowhere " + never, !m.find());
        }
        Matcher imports = Pattern.compile("import ([^;]*);").matcher(bare);
        while (imports.find()) {
            check.holds("may be imported: " + imports.group(1), imports.group(1).equals("java.util.Arrays"));
        }
        Matcher library = Pattern.compile("\\b(Arrays|Math|System|Long|Integer)\\.(\\w+)").matcher(bare);
        while (library.find()) {
            check.holds("may be used: " + library.group(),
                    Set.of("fill", "min", "max", "arraycopy", "MIN_VALUE", "MAX_VALUE").contains(library.group(2)));
        }
        for (int k = 0; k < source.length(); k++) {
            if (source.charAt(k) > 127) {
                check.holds("signs are 1 to 127", false);
            }
        }
    }
}
