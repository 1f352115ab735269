import java.util.Arrays;
import java.util.List;
import java.util.function.Consumer;

/** Tries edges: each on a court of its own, with fault() left at 0 and at 4 by an earlier call. */
final class Edges {
    private static final int[] LEFT = {0, 4};
    private static final int NO_ARGUMENT = -1;
    private final Check check;

    /** One way in which a call is refused; two of the same spot can't be had at once. */
    record Step(String spot, int argument, int value, Consumer<ToldOver> ahead, Court.Kind kind, long due, int fault) {
        void make(ToldOver x) {
            if (ahead != null) {
                ahead.accept(x);
            }
        }

        void change(int[] arguments) {
            if (argument != NO_ARGUMENT) {
                arguments[argument] = value;
            }
        }
    }

    Edges(Check check) {
        this.check = check;
    }

    /** Refused, where an argument is so. */
    static Step argument(int argument, int value, long due) {
        return new Step("argument " + argument, argument, value, null, Court.Kind.WHOLE, due, 0);
    }

    /** Comes to a FAULT, where an argument is so. */
    static Step faulty(int argument, int value, int fault) {
        return new Step("argument " + argument, argument, value, null, Court.Kind.WHOLE, -10 - fault, fault);
    }

    /** Comes to a FAULT (0: is refused), where this was done ahead. */
    static Step ahead(String spot, Consumer<ToldOver> done, long due, int fault) {
        return new Step(spot, NO_ARGUMENT, 0, done, Court.Kind.WHOLE, due, fault);
    }

    /** Refused in a court of a kind. */
    static Step court(Court.Kind kind, long due) {
        return new Step("court", NO_ARGUMENT, 0, null, kind, due, 0);
    }

    /** Each of the steps alone and each two of them at once: the one that is told first is answered. */
    void order(String name, int[] base, Step... steps) {
        order(x -> { }, name, base, steps);
    }

    void order(Consumer<ToldOver> made, String name, int[] base, Step... steps) {
        for (int first = 0; first < steps.length; first++) {
            refuse(made, name, base, steps[first], steps[first]);
            for (int second = first + 1; second < steps.length; second++) {
                if (!steps[first].spot.equals(steps[second].spot)) {
                    refuse(made, name, base, steps[first], steps[second]);
                }
            }
        }
    }

    private void refuse(Consumer<ToldOver> made, String name, int[] base, Step first, Step second) {
        int[] arguments = base.clone();
        first.change(arguments);
        second.change(arguments);
        Court.Kind kind = first.kind == Court.Kind.WHOLE ? second.kind : first.kind;
        Consumer<ToldOver> ahead = x -> {
            made.accept(x);
            first.make(x);
            second.make(x);
        };
        refused(kind, ahead, first.due, first.fault, name, arguments);
    }

    /** In a whole court: not refused at both ends, refused just beyond and far off. */
    void range(String name, int argument, int low, int high, long due, int... base) {
        taken(name, with(base, argument, low));
        taken(name, with(base, argument, high));
        beyond(name, argument, low, high, due, 0, base);
    }

    /** As range(), but beyond it comes to a FAULT. */
    void faultRange(String name, int argument, int low, int high, int fault, int... base) {
        taken(name, with(base, argument, low));
        taken(name, with(base, argument, high));
        beyond(name, argument, low, high, -10 - fault, fault, base);
    }

    void beyond(String name, int argument, int low, int high, long due, int fault, int... base) {
        for (int value : new int[] {low - 1, Integer.MIN_VALUE, high + 1, Integer.MAX_VALUE}) {
            refused(due, fault, name, with(base, argument, value));
        }
    }

    /**
     * What each call that takes n cells of a SHEET from i on shares. They stand in the base from the
     * SHEET on; it has so many cells, and a SHEET of no row stands in the court.
     */
    void cells(String name, int[] base, int at, int length) {
        int sort = base[at + 1];
        int n = base[at + 3];
        for (int k = 0; k < 12; k++) {
            elsewhere(name, base, at, k / 3, k % 3);
        }
        beyond(name, at, 0, 3, ToldOver.UNKNOWN, 0, base);
        beyond(name, at + 1, 0, 2, ToldOver.OUTSIDE, 0, base);
        for (int other = 0; other < 3; other++) {
            refused(-11, 1, name, with(with(base, at, Court.NOTHING), at + 1, other));
            if (other != sort) {
                refused(-12, 2, name, with(base, at + 1, other));
            }
        }
        refused(-14, 4, name, with(base, at + 3, -1));
        refused(-14, 4, name, with(base, at + 3, Integer.MIN_VALUE));
        int[][] missing = {
            {-1, n}, {-1, 0}, {Integer.MIN_VALUE, n}, {Integer.MIN_VALUE, 0}, {length + 1, 0}, {length, 1},
            {length - n + 1, n}, {0, length + 1}, {1, length}, {Integer.MAX_VALUE, 0}, {Integer.MAX_VALUE, 1},
            {Integer.MAX_VALUE, Integer.MAX_VALUE}, {0, Integer.MAX_VALUE}, {1, Integer.MAX_VALUE}
        };
        for (int[] m : missing) {
            refused(-13, 3, name, with(with(base, at + 2, m[0]), at + 3, m[1]));
        }
    }

    /** The same cells as the last ones of another SHEET, of any SORT: nothing is beyond them. */
    private void elsewhere(String name, int[] base, int at, int k, int sort) {
        int n = base[at + 3];
        ToldOver from = Court.open(Court.Kind.WHOLE);
        ToldOver x = Court.open(Court.Kind.WHOLE);
        x.sheet(k, sort, n + 1);
        for (int c = 0; c < n; c++) {
            x.put(k, c + 1, (int) from.cell(base[at], base[at + 2] + c, base[at + 1]));
        }
        Court.leaveFault(x, 4);
        int[] there = with(with(with(base, at, k), at + 1, sort), at + 2, 1);
        long due = Court.call(from, name, base);
        check.holds(name + " answers something", due >= 0);
        check.due(name + " by SHEET " + k + " of sort " + sort, Court.call(x, name, there), due);
        check.due("fault() behind it", x.fault(), 0);
    }

    private static int[] with(int[] base, int argument, int value) {
        int[] arguments = base.clone();
        arguments[argument] = value;
        return arguments;
    }

    void taken(String name, int... arguments) {
        ToldOver x = Court.open(Court.Kind.WHOLE);
        Court.leaveFault(x, 4);
        long got = Court.call(x, name, arguments);
        String call = name + Arrays.toString(arguments);
        check.holds(call + " is not refused, it answered " + got, got >= 0 || got == ToldOver.NONE);
        check.due("fault() behind " + call, x.fault(), Court.namesFaults(name) ? 0 : 4);
    }

    void refused(long due, int fault, String name, int... arguments) {
        refused(Court.Kind.WHOLE, x -> { }, due, fault, name, arguments);
    }

    void refused(Court.Kind kind, Consumer<ToldOver> ahead, long due, int fault, String name, int... arguments) {
        ToldOver same = Court.open(kind);
        ahead.accept(same);
        List<Long> before = Court.seen(same);
        for (int left : LEFT) {
            ToldOver x = Court.open(kind);
            ahead.accept(x);
            Court.leaveFault(x, left);
            String call = kind + " " + name + Arrays.toString(arguments);
            long want = Court.answersLong(name) ? ToldOver.LOST : due;
            check.due(call, Court.call(x, name, arguments), want);
            check.due("fault() behind " + call, x.fault(), Court.namesFaults(name) ? fault : left);
            check.holds(call + " changes nothing", Court.seen(x).equals(before));
        }
    }
}
