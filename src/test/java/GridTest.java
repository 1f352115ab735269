import java.util.ArrayList;
import java.util.List;

/**
 * Every call with every mixture of ordinary, edge and far-off numbers, in a new object, in one without a
 * witness and in a full one: each answer, and fault() behind it, is the Oracle's.
 */
public final class GridTest {
    private static final int USED_FOR = 512, MIN = Integer.MIN_VALUE, MAX = Integer.MAX_VALUE;
    private static final String TONGUES = "w2;74;39;b;84;35", WITNESS = "v;63;07;p2";
    private static final int[] MANY = {MIN, -2, -1, 0, 1, 2, 3, 4, 5, 6, 7, 8, 9, 10, 59, 60, 61, 119, 120, 121, MAX};
    private static final int[] SOME = {MIN, -2, -1, 0, 1, 2, 3, 4, 9, 10, 40, 41, MAX};
    private static final int[] FEW = {-1, 0, 1, 2, 3, 4, 9, 10, MAX};
    private static final int[] LEAST = {-1, 0, 1, 2, 3};
    private static final String[] NAMES = {
        "tongues", "becomes", "meant", "alike", "interpreter", "ofInterpreter", "tire", "carries", "returns", "hands",
        "witness", "answers", "heard", "reached", "said", "over", "ask", "turn", "ofTurn", "back", "wrong", "again",
        "shifts", "booth", "sheet", "lose", "put", "cell", "copy", "tell", "pay", "as", "trace", "fault", "many"
    };
    /** Behind these the grid goes on with a state that is as it was made. */
    private static final List<String> MAKE =
            List.of("tongues", "witness", "interpreter", "tire", "turn", "back", "sheet", "lose", "copy");
    private static final Check check = new Check();

    private enum State { NEW, NO_WITNESS, FULL }

    private final String name;
    private final State state;
    private Both both;

    private GridTest(String name, State state) {
        this.name = name;
        this.state = state;
        both = open(state);
    }

    public static void main(String[] args) {
        for (String name : NAMES) {
            for (State state : State.values()) {
                check.part("grid, " + state);
                new GridTest(name, state).run();
            }
        }
        check.end("GridTest");
    }

    private static Both open(State state) {
        Both both = new Both(check);
        if (state == State.NEW) {
            return both;
        }
        both.write(0, 0, TONGUES);
        both.call("tongues", 0, 0, 0, TONGUES.length());
        both.call("interpreter", 0, 0);
        both.call("interpreter", 1, 3);
        both.call("interpreter", 2, 9);
        both.row(1, 1, 1, 0, 2, 1, 0);
        both.row(2, 2, 2, 0, 1, 2, 3, 0, 1, 0, 2, 1);
        if (state == State.FULL) {
            both.write(0, 0, WITNESS);
            both.call("witness", 0, 0, 0, WITNESS.length());
            both.call("interpreter", 1, 5);
            for (int t = 0; t < 6; t++) {
                both.call("turn", t % 4, t % 2, t / 4, 9 - t, 1 + t);
            }
        }
        return both;
    }

    private void run() {
        int[] values = values(Both.parameters(name));
        List<int[]> grid = new ArrayList<>();
        fill(grid, new int[Both.parameters(name)], 0, values);
        for (int[] arguments : grid) {
            if (both.calls() > USED_FOR - 2) {
                both = open(state);
            }
            long got = both.callAndFault(name, arguments);
            if (got >= 0 && MAKE.contains(name)) {
                both = open(state);
            }
        }
    }

    private static int[] values(int parameters) {
        return parameters <= 3 ? MANY : parameters == 4 ? SOME : parameters == 5 ? FEW : LEAST;
    }

    private static void fill(List<int[]> grid, int[] arguments, int at, int[] values) {
        if (at == arguments.length) {
            grid.add(arguments.clone());
            return;
        }
        for (int value : values) {
            arguments[at] = value;
            fill(grid, arguments, at + 1, values);
        }
    }
}
