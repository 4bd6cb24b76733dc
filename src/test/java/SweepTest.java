import java.lang.reflect.InvocationTargetException;
import java.lang.reflect.Method;
import java.lang.reflect.Modifier;
import java.util.Arrays;
import java.util.List;

/**
 * Every call with every bound of the document, the numbers beside it and the ends of all numbers, in all orders, on
 * objects in several states: the answers, and which refusal comes first, are held against the model's.
 */
public final class SweepTest {
    private static final Check CHECK = new Check("SweepTest");
    private static final int MIN = Integer.MIN_VALUE, MAX = Integer.MAX_VALUE;
    /** An object is used for 512 calls; making it takes some of them. */
    private static final int CALLS = 300;
    private static final int[] ENDS = {MIN, -1000001, -101, -4, -3, -2, -1, 0, 1, 2, 3, 4, 5, 6, 7, 8, 9, 10, 11, 15, 16,
        17, 19, 20, 21, 23, 24, 25, 30, 31, 32, 39, 40, 41, 59, 60, 61, 99, 100, 127, 128, 255, 256, 999, 1000, 999998,
        999999, 1000000, MAX};
    private static final int[] FEW = {MIN, -3, -2, -1, 0, 1, 2, 3, 4, 5, 6, 7, 8, 10, 11, 40, 41, 60, 61, 999999, 1000000, MAX};
    private static final int[] ROWS = {-1, 0, 1, 2, 5, 7, 8}, PLACES = {MIN, -1, 0, 1, 3, 4, 5, MAX};
    private static final int[] NIGHTS = {-1, 0, 1, 2, 16, 17, MAX}, WHATS = {-1, 0, 1, 2, 3};

    private static final String SMALL = "l5,3;w9,1;w5,2;c4,1,0;m2,2,5;";
    private static final String LARGE = "l8,3;w20,1;w15,2;w9,0;w30,4;w0,5;o5,1,0;c6,2,0;m4,4,3;n3,0,1;";

    /** How an object is made: a text, nights passed by then, worries grown, bytes then fed; rows or none. */
    private record State(String name, String text, int nights, int grown, int bytes, boolean rows) { }

    private static final List<State> STATES = List.of(new State("new", "", 0, 0, 0, false),
            new State("small", SMALL, 1, 1, 1, true), new State("large", LARGE, 4, 19, 99, true),
            new State("late", SMALL, 998, 3, 100, true), new State("no wakers", "l0,0;w0,0;", 0, 0, 0, true));

    private final State state;
    private WakeLet x;
    private Model y;
    private int calls;

    private SweepTest(State state) {
        this.state = state;
        make();
    }

    public static void main(String[] args) throws ReflectiveOperationException {
        for (State state : STATES) {
            new SweepTest(state).sweep();
        }
        CHECK.end();
    }

    private void make() {
        x = new WakeLet();
        y = new Model();
        calls = 0;
        for (char letter : state.text.toCharArray()) {
            x.feed(letter);
            y.feed(letter);
        }
        x.agency();
        y.agency();
        x.image(1);
        y.image(1);
        for (int left = state.nights; left > 0; left -= 24) {
            x.nights(Math.min(24, left));
            y.nights(Math.min(24, left));
        }
        for (int k = 0; k < state.grown; k++) {
            x.grow(0, 1);
            y.grow(0, 1);
        }
        for (int k = 0; k < state.bytes; k++) {
            x.feed('l');
            y.feed('l');
        }
        if (state.rows) {
            makeRows();
        }
    }

    private void makeRows() {
        int[][] made = {{0, 0, 4}, {1, 1, 4}, {5, 1, 40}, {7, 2, 0}};
        for (int[] row : made) {
            x.row(row[0], row[1], row[2]);
            y.row(row[0], row[1], row[2]);
        }
    }

    private void sweep() throws ReflectiveOperationException {
        for (Method call : WakeLet.class.getDeclaredMethods()) {
            int arity = call.getParameterCount();
            int[][] values = new int[arity][];
            Arrays.fill(values, arity <= 2 ? ENDS : FEW);
            if (call.getName().equals("copy")) {
                values = new int[][] {ROWS, PLACES, ROWS, PLACES, PLACES};
            } else if (call.getName().equals("fits")) {
                values = new int[][] {{-1, 0, 1, 2, MAX}, ROWS, PLACES, NIGHTS, WHATS};
            } else if (isSlow(call)) {
                Arrays.fill(values, new int[] {MIN, -2, -1, 0, 3, 4, 61, MAX});
            }
            if (Modifier.isPublic(call.getModifiers())) {
                make();
                sweep(call, Model.class.getDeclaredMethod(call.getName(), call.getParameterTypes()), values);
            }
        }
    }

    /** The model tries all ways night by night. */
    private boolean isSlow(Method call) {
        return state.name.equals("large") && (call.getName().equals("best") || call.getName().equals("fewest"));
    }

    private void sweep(Method call, Method model, int[][] values) throws IllegalAccessException {
        int[] at = new int[values.length];
        boolean more = true;
        while (more) {
            Object[] args = new Object[at.length];
            for (int k = 0; k < at.length; k++) {
                args[k] = values[k][at[k]];
            }
            both(call, model, args);
            int k = at.length - 1;
            while (k >= 0 && ++at[k] == values[k].length) {
                at[k--] = 0;
            }
            more = k >= 0;
        }
    }

    private void both(Method call, Method model, Object[] args) throws IllegalAccessException {
        if (calls >= CALLS) {
            make();
        }
        calls += 2;
        String name = state.name + ": " + call.getName() + Arrays.toString(args);
        try {
            CHECK.due(name, (int) call.invoke(x, args), (int) model.invoke(y, args));
            CHECK.due("status behind " + name, x.status(), y.status());
        } catch (InvocationTargetException e) {
            CHECK.due(name + " throws " + e.getCause(), 1, 0);
        }
    }
}
