import java.lang.reflect.InvocationTargetException;
import java.lang.reflect.Method;
import java.util.Arrays;
import java.util.Comparator;
import java.util.List;
import java.util.regex.Matcher;
import java.util.regex.Pattern;

/**
 * What the tests by sentences share. A static method whose name begins with "promise" and a number is a test:
 * it stands for one sentence of the document, under the promise of that number, and makes its own objects.
 */
abstract class Sentences {
    static final int NONE = -1000000, BAD = -1000001, STATE = -1000002, FULL = -1000003;
    static final int NULL = -1000011, PLACE = -1000012, KIND = -1000013, SIZE = -1000014, STORE = -1000015;
    static final int MIN = Integer.MIN_VALUE, MAX = Integer.MAX_VALUE;

    /** Behind the next night just the client rests whom the waker is let to, so that fits tells an item of a row. */
    static final String READER = "l0,0;w1,0;w1,0;w1,0;w1,0;w1,0;o9,0,5;";

    private static final Pattern NAME = Pattern.compile("promise(\\d+)[A-Z]\\w*");
    private static Check check = new Check("no test");
    private static String running = "";

    /** The number of the promise that a method tests; 0: it is no test. */
    static int promiseOf(Method m) {
        Matcher name = NAME.matcher(m.getName());
        return name.matches() ? Integer.parseInt(name.group(1)) : 0;
    }

    static List<Method> testsOf(Class<?> tests) {
        return Arrays.stream(tests.getDeclaredMethods()).filter(m -> promiseOf(m) > 0)
                .sorted(Comparator.comparingInt(Sentences::promiseOf).thenComparing(Method::getName)).toList();
    }

    static void run(Class<?> tests) {
        check = new Check(tests.getSimpleName());
        for (Method m : testsOf(tests)) {
            running = m.getName();
            int before = check.asked();
            String broken = "";
            try {
                m.invoke(null);
            } catch (IllegalAccessException | InvocationTargetException e) {
                broken = " " + (e.getCause() == null ? e : e.getCause());
            }
            check.due(running + " runs through, and asks" + broken, broken.isEmpty() && check.asked() > before ? 1 : 0, 1);
        }
        check.end();
    }

    static void due(String call, long got, long want) {
        check.due(running + ": " + call, got, want);
    }

    static WakeLet open(String text) {
        return Check.open(text);
    }

    static int read(WakeLet x, String text) {
        return Check.read(x, text);
    }

    /** Of an object that reads READER: 0, 1, 2, 4, 8 or 16; -1: another number; a refusal as it is. */
    static int item(WakeLet x, int row, int i) {
        int told = x.fits(0, row, i, 1, 0);
        if (told == 0) {
            return -1;
        }
        return told < 0 ? told : told & 31;
    }

    static void fill(WakeLet x, int row, int lane, int... items) {
        x.row(row, lane, items.length);
        for (int i = 0; i < items.length; i++) {
            x.set(row, i, items[i]);
        }
    }

    static void dueItems(String call, WakeLet x, int row, int... items) {
        for (int i = 0; i < items.length; i++) {
            due(call + ", item " + i + " of row " + row, item(x, row, i), items[i]);
        }
        due(call + ", row " + row + " has no more", item(x, row, items.length), PLACE);
    }

    /** Nights one by one would be many calls: as many at once as may be. */
    static void passNights(WakeLet x, int n) {
        for (int left = n; left > 0; left -= 24) {
            x.nights(Math.min(24, left));
        }
    }
}
