import java.io.IOException;
import java.lang.reflect.Field;
import java.lang.reflect.Method;
import java.lang.reflect.Modifier;
import java.nio.file.Files;
import java.nio.file.Path;
import java.util.Arrays;
import java.util.List;
import java.util.TreeSet;
import java.util.regex.Pattern;

/** LANGUAGE.md, as far as it can be seen from the compiled classes and from the words of the source. */
public final class RulesTest {
    private static final Check CHECK = new Check("RulesTest");
    private static final List<String> FACE = List.of("row/3", "set/3", "copy/5", "drop/1", "feed/1", "agency/0",
            "fault/0", "nights/1", "let/2", "grow/2", "learn/2", "undo/0", "client/2", "waker/2", "weight/2",
            "earned/2", "rests/1", "when/1", "all/1", "never/0", "best/2", "fewest/3", "fits/5", "nods/3", "drawn/3",
            "image/1", "restore/1", "kind/1", "as/2", "ask/2", "trace/1", "count/1", "status/0");
    private static final List<String> FORBIDDEN = List.of("throw", "throws", "try", "catch", "finally",
            "synchronized", "assert", "import", "package", "equals", "hashCode", "toString", "String", "double", "float",
            "\\w+Exact", "->", "::", "static \\{");

    public static void main(String[] args) throws IOException {
        face();
        for (Class<?> inside : WakeLet.class.getDeclaredClasses()) {
            CHECK.due("rule 1: static " + inside, inside.getModifiers() & Modifier.STATIC, Modifier.STATIC);
            CHECK.due("rule 11: fields of " + inside, ownFields(inside) <= 20 ? 1 : 0, 1);
            members(inside);
        }
        members(WakeLet.class);
        words(Files.readString(Path.of("src/main/java/WakeLet.java")));
        CHECK.end();
    }

    private static void face() {
        TreeSet<String> seen = new TreeSet<>();
        for (Method m : WakeLet.class.getDeclaredMethods()) {
            if (!Modifier.isPrivate(m.getModifiers())) {
                seen.add(m.getName() + "/" + m.getParameterCount());
                CHECK.due("face: int " + m, m.getReturnType() == int.class ? 1 : 0, 1);
                CHECK.due("face: public " + m, m.getModifiers(), Modifier.PUBLIC);
            }
        }
        CHECK.due("face: " + seen, seen.equals(new TreeSet<>(FACE)) ? 1 : 0, 1);
        TreeSet<String> constants = new TreeSet<>();
        for (Field f : WakeLet.class.getDeclaredFields()) {
            if (!Modifier.isPrivate(f.getModifiers())) {
                constants.add(f.getName());
            }
        }
        CHECK.due("face: " + constants, constants.toString().equals("[BAD, FULL, NONE, STATE]") ? 1 : 0, 1);
        CHECK.due("face: final", WakeLet.class.getModifiers(), Modifier.PUBLIC | Modifier.FINAL);
        CHECK.due("face: constructors", WakeLet.class.getConstructors().length, 1);
    }

    private static long ownFields(Class<?> type) {
        return Arrays.stream(type.getDeclaredFields()).filter(f -> !Modifier.isStatic(f.getModifiers())).count();
    }

    private static void members(Class<?> type) {
        for (Field f : type.getDeclaredFields()) {
            boolean loose = Modifier.isStatic(f.getModifiers()) && !Modifier.isFinal(f.getModifiers());
            CHECK.due("rule 5: " + f, loose ? 1 : 0, 0);
        }
        for (Method m : type.getDeclaredMethods()) {
            CHECK.due("rule 11: parameters of " + m, m.getParameterCount() <= 7 ? 1 : 0, 1);
            boolean namesake = FACE.stream().anyMatch(f -> f.startsWith(m.getName() + "/"));
            boolean own = type == WakeLet.class && Modifier.isPublic(m.getModifiers());
            CHECK.due("rule 1: name of " + m, namesake && !own ? 1 : 0, 0);
        }
    }

    private static void words(String source) {
        String code = source.replaceAll("(?s)/\\*.*?\\*/", " ").replaceAll("//[^\n]*", " ");
        for (String word : FORBIDDEN) {
            String pattern = word.matches("\\w.*|\\\\w.*") ? "\\b" + word + (word.endsWith("{") ? "" : "\\b") : word;
            CHECK.due("rules 3, 4, 6: no " + word, Pattern.compile(pattern).matcher(code).find() ? 1 : 0, 0);
        }
        CHECK.due("rule 9: no while", Pattern.compile("\\bwhile\\b").matcher(code).find() ? 1 : 0, 0);
        boolean plain = source.chars().allMatch(c -> c == '\n' || c >= 32 && c < 127);
        CHECK.due("rule 4: signs", plain ? 1 : 0, 1);
    }
}
