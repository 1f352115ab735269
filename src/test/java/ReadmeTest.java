import java.io.IOException;
import java.lang.reflect.Method;
import java.lang.reflect.Modifier;
import java.net.URL;
import java.net.URLClassLoader;
import java.nio.file.Files;
import java.nio.file.Path;
import java.util.ArrayList;
import java.util.List;
import java.util.regex.Matcher;
import java.util.regex.Pattern;
import java.util.stream.Stream;
import javax.tools.JavaCompiler;
import javax.tools.ToolProvider;

/**
 * The calls that README.md shows answer as it says. They are read from the page itself, so that page and
 * test can't drift apart: each line with a call of x tells its answer behind it, a number or a constant.
 */
public final class ReadmeTest {
    private static final Check check = new Check();
    private static final Path PAGE = Path.of("README.md"), TESTS = Path.of("src/test/java");
    private static final Pattern TOLD = Pattern.compile("(\\s*)(x\\.\\w+\\(.*\\));\\s*// (-?\\d+|[A-Z]+)(: .*)?");
    private static final Pattern CALLED = Pattern.compile("\\bx\\.(\\w+)\\(");

    public static void main(String[] args) throws IOException, ReflectiveOperationException {
        String page = Files.readString(PAGE);
        List<String> blocks = javaBlocks(page);
        eachCallTellsItsAnswer(blocks);
        eachCallOfTheFaceIsShown(blocks);
        howToRunTheTests(page);
        doTheCalls(blocks);
        check.end("ReadmeTest");
    }

    private static List<String> javaBlocks(String page) {
        List<String> blocks = new ArrayList<>();
        Matcher m = Pattern.compile("(?ms)^```java\n(.*?)^```$").matcher(page);
        while (m.find()) {
            blocks.add(m.group(1));
        }
        return blocks;
    }

    private static void eachCallTellsItsAnswer(List<String> blocks) {
        check.part("an answer is told");
        check.holds("there are examples", !blocks.isEmpty());
        for (String block : blocks) {
            for (String line : block.split("\n")) {
                if (CALLED.matcher(line).find()) {
                    check.holds(line, TOLD.matcher(line).matches());
                }
            }
        }
    }

    private static void eachCallOfTheFaceIsShown(List<String> blocks) {
        check.part("how to use it");
        String shown = String.join("", blocks);
        for (Method m : ToldOver.class.getDeclaredMethods()) {
            if (Modifier.isPublic(m.getModifiers())) {
                check.holds(m.getName() + " is shown", shown.contains("x." + m.getName() + "("));
            }
        }
    }

    private static void howToRunTheTests(String page) throws IOException {
        check.part("how to run its tests");
        check.holds(".ci/run is named", page.contains("    .ci/run\n"));
        check.holds(".ci/run can be run", Files.isExecutable(Path.of(".ci/run")));
        try (Stream<Path> files = Files.list(TESTS)) {
            for (Path file : files.toList()) {
                String name = file.getFileName().toString();
                if (name.endsWith("Test.java")) {
                    check.holds(name + " is named", page.contains("| `" + name.replace(".java", "") + "` |"));
                }
            }
        }
        Matcher named = Pattern.compile("(?m)^\\| `(\\w+)` \\|").matcher(page);
        while (named.find()) {
            check.holds(named.group(1) + " is there", Files.exists(TESTS.resolve(named.group(1) + ".java")));
        }
    }

    // ---- the page's calls, as a class

    private static void doTheCalls(List<String> blocks) throws IOException, ReflectiveOperationException {
        check.part("README.md");
        JavaCompiler compiler = ToolProvider.getSystemJavaCompiler();
        check.holds("there is a compiler", compiler != null);
        if (compiler == null) {
            return;
        }
        Path out = Files.createTempDirectory("readme");
        Path source = out.resolve("ReadmeCalls.java");
        Files.writeString(source, classOf(blocks));
        String path = System.getProperty("java.class.path");
        int failed = compiler.run(null, null, null, "-cp", path, "-d", out.toString(), source.toString());
        check.due("compiling the examples", failed, 0);
        if (failed == 0) {
            call(out);
        }
        remove(out);
    }

    private static void call(Path out) throws IOException, ReflectiveOperationException {
        URL[] places = {out.toUri().toURL()};
        try (URLClassLoader loader = new URLClassLoader(places, ReadmeTest.class.getClassLoader())) {
            Method calls = loader.loadClass("ReadmeCalls").getDeclaredMethod("calls");
            @SuppressWarnings("unchecked")
            List<Object[]> answers = (List<Object[]>) calls.invoke(null);
            for (Object[] answer : answers) {
                check.due((String) answer[0], (Long) answer[1], (Long) answer[2]);
            }
            check.holds("the examples keep to 512 calls", !answers.isEmpty() && answers.size() <= 512);
        }
    }

    private static void remove(Path out) throws IOException {
        try (Stream<Path> files = Files.list(out)) {
            for (Path file : files.toList()) {
                Files.delete(file);
            }
        }
        Files.delete(out);
    }

    private static String classOf(List<String> blocks) {
        StringBuilder methods = new StringBuilder();
        StringBuilder calls = new StringBuilder();
        for (String block : blocks) {
            (block.startsWith("static ") ? methods : calls).append(compared(block));
        }
        return "public final class ReadmeCalls {\n"
                + "static final java.util.List<Object[]> answers = new java.util.ArrayList<>();\n"
                + "static void due(String call, long got, long want) {\n"
                + "answers.add(new Object[] {call, got, want});\n}\n"
                + methods
                + "public static java.util.List<Object[]> calls() {\n" + calls + "return answers;\n}\n}\n";
    }

    private static String compared(String block) {
        StringBuilder s = new StringBuilder();
        for (String line : block.split("\n")) {
            Matcher told = TOLD.matcher(line);
            s.append(told.matches() ? due(told.group(2), told.group(3)) : line).append('\n');
        }
        return s.toString();
    }

    private static String due(String call, String answer) {
        String want = Character.isUpperCase(answer.charAt(0)) ? "ToldOver." + answer : answer + "L";
        return "due(\"" + call.replace("\"", "\\\"") + "\", " + call + ", " + want + ");";
    }
}
