import java.io.IOException;
import java.lang.reflect.Field;
import java.lang.reflect.Method;
import java.lang.reflect.Modifier;
import java.nio.file.Files;
import java.nio.file.Path;
import java.util.ArrayList;
import java.util.Arrays;
import java.util.List;
import java.util.TreeSet;
import java.util.regex.Matcher;
import java.util.regex.Pattern;

/** The document's face, and LANGUAGE.md as far as the compiled classes and the words of the source show it. */
public final class RulesTest {
    private static final Check CHECK = new Check("RulesTest");
    private static final Pattern FACE = Pattern.compile("(?s)public final class WakeLet \\{\n(.*?)\n}\n");
    private static final Pattern CALL = Pattern.compile("public int (\\w+)\\(.*\\);");
    private static final List<String> FORBIDDEN = List.of("throw", "throws", "try", "catch", "finally",
            "synchronized", "assert", "import", "package", "equals", "hashCode", "toString", "String", "double", "float",
            "\\w+Exact", "->", "::", "static \\{");

    private static final List<String> CALLS = new ArrayList<>();

    public static void main(String[] args) throws IOException {
        String source = Files.readString(Path.of("src/main/java/WakeLet.java"));
        told(Files.readString(Path.of("../shared/DOC.md")), source);
        face();
        Class<?>[] insides = WakeLet.class.getDeclaredClasses();
        CHECK.due("rule 11: classes", insides.length < 12 ? 1 : 0, 1);
        for (Class<?> inside : insides) {
            CHECK.due("rule 1: static " + inside, inside.getModifiers() & Modifier.STATIC, Modifier.STATIC);
            members(inside);
        }
        members(WakeLet.class);
        words(source);
        CHECK.end();
    }

    /** Each line of the face that the document tells stands in the source as it is told, with its body behind it. */
    private static void told(String document, String source) {
        Matcher face = FACE.matcher(document);
        CHECK.due("the document tells a face", face.find() ? 1 : 0, 1);
        for (String line : face.group(1).split("\n")) {
            Matcher call = CALL.matcher(line.strip());
            if (call.matches()) {
                CALLS.add(call.group(1));
            }
            String written = line.endsWith(");") ? line.replace(");", ") {") : line;
            CHECK.due("face: " + line, source.contains("\n" + written + "\n") ? 1 : 0, 1);
        }
        CHECK.due("face: calls told", CALLS.size(), 33);
    }

    private static void face() {
        List<String> seen = new ArrayList<>();
        for (Method m : WakeLet.class.getDeclaredMethods()) {
            if (!Modifier.isPrivate(m.getModifiers())) {
                seen.add(m.getName());
                CHECK.due("face: public " + m, m.getModifiers(), Modifier.PUBLIC);
            }
        }
        CHECK.due("face: no more than told: " + seen, seen.size(), CALLS.size());
        TreeSet<String> constants = new TreeSet<>();
        for (Field f : WakeLet.class.getDeclaredFields()) {
            if (!Modifier.isPrivate(f.getModifiers())) {
                constants.add(f.getName());
            }
        }
        CHECK.due("face: " + constants, constants.toString().equals("[BAD, FULL, NONE, STATE]") ? 1 : 0, 1);
        CHECK.due("face: final", WakeLet.class.getModifiers(), Modifier.PUBLIC | Modifier.FINAL);
        CHECK.due("face: constructors", WakeLet.class.getDeclaredConstructors().length, 1);
    }

    private static long ownFields(Class<?> type) {
        return Arrays.stream(type.getDeclaredFields()).filter(f -> !Modifier.isStatic(f.getModifiers())).count();
    }

    private static void members(Class<?> type) {
        CHECK.due("rule 11: fields of " + type, ownFields(type) <= 20 ? 1 : 0, 1);
        for (Field f : type.getDeclaredFields()) {
            boolean loose = Modifier.isStatic(f.getModifiers()) && !Modifier.isFinal(f.getModifiers());
            CHECK.due("rule 5: " + f, loose ? 1 : 0, 0);
        }
        for (Method m : type.getDeclaredMethods()) {
            CHECK.due("rule 11: parameters of " + m, m.getParameterCount() <= 7 ? 1 : 0, 1);
            boolean own = type == WakeLet.class && Modifier.isPublic(m.getModifiers());
            CHECK.due("rule 1: name of " + m, CALLS.contains(m.getName()) && !own ? 1 : 0, 0);
        }
    }

    private static void words(String source) {
        String code = source.replaceAll("(?s)/\\*.*?\\*/", " ").replaceAll("//[^\n]*", " ");
        for (String word : FORBIDDEN) {
            String pattern = word.matches("\\w.*|\\\\w.*") ? "\\b" + word + (word.endsWith("{") ? "" : "\\b") : word;
            CHECK.due("rules 3, 4, 6: no " + word, Pattern.compile(pattern).matcher(code).find() ? 1 : 0, 0);
        }
        CHECK.due("rule 9: no while", Pattern.compile("\\bwhile\\b").matcher(code).find() ? 1 : 0, 0);
        boolean plain = source.chars().allMatch(c -> c == '\n' || c >= 32 && c < 127);
        CHECK.due("rule 4: signs", plain ? 1 : 0, 1);
    }
}
