import java.io.File;
import java.lang.reflect.Method;

/** Each promise has tests of its own among the tests by sentences, and each such test is one that is run. */
public final class PromisesTest {
    private static final Check CHECK = new Check("PromisesTest");
    private static final int PROMISES = 34;

    public static void main(String[] args) throws ClassNotFoundException {
        int[] tests = new int[PROMISES + 1];
        String[] files = new File("src/test/java").list();
        for (String file : files == null ? new String[0] : files) {
            if (file.endsWith("Test.java")) {
                count(Class.forName(file.replace(".java", "")), tests);
            }
        }
        for (int promise = 1; promise <= PROMISES; promise++) {
            CHECK.due("tests of promise " + promise, tests[promise] > 0 ? 1 : 0, 1);
        }
        CHECK.end();
    }

    private static void count(Class<?> type, int[] tests) {
        for (Method m : type.getDeclaredMethods()) {
            if (m.getName().startsWith("promise")) {
                int promise = Sentences.promiseOf(m);
                boolean runs = Sentences.class.isAssignableFrom(type) && promise >= 1 && promise <= PROMISES;
                CHECK.due(type.getName() + "." + m.getName() + " is run", runs ? 1 : 0, 1);
                tests[runs ? promise : 0]++;
            }
        }
    }
}
