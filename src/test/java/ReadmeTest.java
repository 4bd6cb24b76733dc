import java.io.IOException;
import java.lang.reflect.Method;
import java.lang.reflect.Modifier;
import java.nio.file.Files;
import java.nio.file.Path;
import java.util.Arrays;
import java.util.TreeSet;
import java.util.regex.Matcher;
import java.util.regex.Pattern;

/** The calls that README.md shows are one run, and answer what stands behind each; every call of the face is shown. */
public final class ReadmeTest {
    private static final Check CHECK = new Check("ReadmeTest");
    private static final Pattern BLOCK = Pattern.compile("(?s)```java\n(.*?)```");
    private static final Pattern FEEDING =
            Pattern.compile("for \\(char letter : \"([^\"]*)\"\\.toCharArray\\(\\)\\) x\\.feed\\(letter\\);");
    private static final Pattern CALL = Pattern.compile("x\\.(\\w+)\\(([-\\d, ]*)\\); +// (-?\\d+|[A-Z]+)(?:: .+)?");
    private static final int MOST_CALLS = 512;

    private static final TreeSet<String> SHOWN = new TreeSet<>();
    private static WakeLet x = new WakeLet();
    private static int calls;

    public static void main(String[] args) throws IOException, ReflectiveOperationException {
        Matcher block = BLOCK.matcher(Files.readString(Path.of("README.md")));
        while (block.find()) {
            for (String line : block.group(1).split("\n")) {
                show(line);
            }
        }
        TreeSet<String> face = new TreeSet<>();
        for (Method m : WakeLet.class.getDeclaredMethods()) {
            if (Modifier.isPublic(m.getModifiers())) {
                face.add(m.getName());
            }
        }
        face.removeAll(SHOWN);
        CHECK.due("calls not shown: " + face, face.size(), 0);
        CHECK.due("no more calls than an object is used for", calls <= MOST_CALLS ? 1 : 0, 1);
        CHECK.end();
    }

    private static void show(String line) throws ReflectiveOperationException {
        Matcher feeding = FEEDING.matcher(line);
        Matcher call = CALL.matcher(line);
        if (line.equals("WakeLet x = new WakeLet();")) {
            x = new WakeLet();
            calls = 0;
        } else if (feeding.matches()) {
            SHOWN.add("feed");
            feed(feeding.group(1));
        } else {
            CHECK.due("a line that can be run: " + line, call.matches() ? 1 : 0, 1);
            if (call.matches()) {
                SHOWN.add(call.group(1));
                calls++;
                CHECK.due(line, answer(call.group(1), call.group(2)), told(call.group(3)));
            }
        }
    }

    private static void feed(String text) {
        for (int i = 0; i < text.length(); i++) {
            calls++;
            CHECK.due("feed of " + text + " at " + i, x.feed(text.charAt(i)), i + 1);
        }
    }

    private static int answer(String name, String told) throws ReflectiveOperationException {
        Object[] numbers = told.isEmpty() ? new Object[0]
                : Arrays.stream(told.split(", ")).map(Integer::valueOf).toArray();
        Class<?>[] types = new Class<?>[numbers.length];
        Arrays.fill(types, int.class);
        return (Integer) WakeLet.class.getMethod(name, types).invoke(x, numbers);
    }

    private static long told(String answer) throws ReflectiveOperationException {
        return answer.matches("[A-Z]+") ? WakeLet.class.getField(answer).getInt(null) : Long.parseLong(answer);
    }
}
