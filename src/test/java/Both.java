import java.lang.reflect.Method;
import java.util.Arrays;
import java.util.HashMap;
import java.util.Map;

/** An object and an Oracle that get the same calls; each answer, and fault() behind it, is compared. */
final class Both {
    private static final Map<String, Method> CALLS = methods(ToldOver.class), DUE = methods(Oracle.class);
    private final Check check;
    private final ToldOver x = new ToldOver();
    private final Oracle due = new Oracle();
    private int calls;

    Both(Check check) {
        this.check = check;
    }

    private static Map<String, Method> methods(Class<?> of) {
        Map<String, Method> methods = new HashMap<>();
        for (Method m : of.getDeclaredMethods()) {
            boolean takesInts = Arrays.stream(m.getParameterTypes()).allMatch(t -> t == int.class);
            if (takesInts && !java.lang.reflect.Modifier.isPrivate(m.getModifiers())) {
                methods.put(m.getName(), m);
            }
        }
        return methods;
    }

    static int parameters(String name) {
        return CALLS.get(name).getParameterCount();
    }

    /** How many calls the object has had. */
    int calls() {
        return calls;
    }

    long call(String name, int... arguments) {
        long got = answer(CALLS.get(name), x, arguments);
        long want = answer(DUE.get(name), due, arguments);
        calls++;
        check.due(got == want ? name : name + Arrays.toString(arguments), got, want);
        return got;
    }

    /** The call, and what fault() tells behind it. */
    long callAndFault(String name, int... arguments) {
        long got = call(name, arguments);
        long fault = x.fault();
        calls++;
        check.due(fault == due.fault() ? "fault" : "fault behind " + name + Arrays.toString(arguments),
                fault, due.fault());
        return got;
    }

    private static long answer(Method m, Object of, int... arguments) {
        Object[] given = Arrays.stream(arguments).boxed().toArray();
        try {
            return ((Number) m.invoke(of, given)).longValue();
        } catch (ReflectiveOperationException e) {
            throw new IllegalStateException(m.getName() + Arrays.toString(arguments), e);
        }
    }

    void write(int sheet, int sort, String text) {
        call("sheet", sheet, sort, text.length());
        for (int i = 0; i < text.length(); i++) {
            call("put", sheet, i, text.charAt(i));
        }
    }

    void row(int sheet, int sort, int... cells) {
        call("sheet", sheet, sort, cells.length);
        for (int i = 0; i < cells.length; i++) {
            call("put", sheet, i, cells[i]);
        }
    }
}
