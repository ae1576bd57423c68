import java.io.IOException;
import java.lang.reflect.Constructor;
import java.lang.reflect.Field;
import java.lang.reflect.Member;
import java.lang.reflect.Method;
import java.lang.reflect.Modifier;
import java.nio.file.Files;
import java.nio.file.Path;
import java.util.ArrayList;
import java.util.Arrays;
import java.util.List;
import java.util.Set;
import java.util.TreeSet;
import java.util.regex.Matcher;
import java.util.regex.Pattern;

/** The face of the class, held against the document's own rows: 'The public face', the headings, the promises. */
public final class FaceTest {
    private static final Check CHECK = new Check();
    private static final Pattern METHOD = Pattern.compile("public int (\\w+\\([^)]*\\))");

    public static void main(String[] args) throws IOException {
        String folder = System.getenv().getOrDefault("SHARED", "../shared");
        String document = Files.readString(Path.of(folder, "DOC.md"));
        String source = Files.readString(Path.of("src/main/java/WeddingReasons.java"));
        String face = found("```java\n(.*?)```", document);
        constants(face);
        methods(face, source);
        constructor(face);
        headings(document, source);
        promises(document, face);
        CHECK.end();
    }

    private static String found(String pattern, String text) {
        Matcher matcher = Pattern.compile(pattern, Pattern.DOTALL).matcher(text);
        if (!matcher.find()) {
            throw new IllegalStateException("the document has no " + pattern);
        }
        return matcher.group(1);
    }

    private static List<String> all(Pattern pattern, String text) {
        List<String> all = new ArrayList<>();
        Matcher matcher = pattern.matcher(text);
        while (matcher.find()) {
            all.add(matcher.group(1));
        }
        return all;
    }

    private static void constants(String face) {
        Set<String> want = new TreeSet<>(all(Pattern.compile("([A-Z]+ = -?\\d+)"), face));
        Set<String> got = new TreeSet<>();
        for (Field field : WeddingReasons.class.getDeclaredFields()) {
            if (!isHidden(field)) {
                CHECK.due(field + " is a constant", field.getModifiers(), Modifier.PUBLIC | Modifier.STATIC | Modifier.FINAL);
                CHECK.same(field + " is an int", field.getType().getName(), "int");
                got.add(field.getName() + " = " + valueOf(field.getName()));
            }
        }
        CHECK.same("the constants", got.toString(), want.toString());
        CHECK.due("there are five", got.size(), 5);
    }

    private static int valueOf(String constant) {
        return switch (constant) {
            case "NONE" -> WeddingReasons.NONE;
            case "UNKNOWN" -> WeddingReasons.UNKNOWN;
            case "OUTSIDE" -> WeddingReasons.OUTSIDE;
            case "NOT" -> WeddingReasons.NOT;
            case "FULL" -> WeddingReasons.FULL;
            default -> 0;
        };
    }

    private static boolean isHidden(Member member) {
        return Modifier.isPrivate(member.getModifiers());
    }

    /** By name, type and name of each argument, in the document's order; and no other that can be seen. */
    private static void methods(String face, String source) {
        List<String> want = all(METHOD, face);
        CHECK.due("there are thirty", want.size(), 30);
        CHECK.same("the methods", all(METHOD, source).toString(), want.toString());
        Set<String> open = new TreeSet<>();
        for (Method method : WeddingReasons.class.getDeclaredMethods()) {
            if (!isHidden(method)) {
                String types = String.join(", ", Arrays.stream(method.getParameterTypes()).map(Class::getName).toList());
                open.add(method.getName() + "(" + types + ")");
                CHECK.same(method + " answers", method.getReturnType().getName(), "int");
                CHECK.due(method + " is public", method.getModifiers(), Modifier.PUBLIC);
            }
        }
        Set<String> typed = new TreeSet<>();
        want.forEach(call -> typed.add(call.replaceAll("(int|boolean) \\w+", "$1")));
        CHECK.same("the methods that can be seen", open.toString(), typed.toString());
    }

    private static void constructor(String face) {
        Class<?> type = WeddingReasons.class;
        CHECK.due("the document's constructor", face.contains("public WeddingReasons();") ? 1 : 0, 1);
        CHECK.due("one constructor", type.getDeclaredConstructors().length, 1);
        for (Constructor<?> made : type.getDeclaredConstructors()) {
            CHECK.due("it takes nothing", made.getParameterCount(), 0);
            CHECK.due("it is public", made.getModifiers(), Modifier.PUBLIC);
        }
        CHECK.due("the class", type.getModifiers(), Modifier.PUBLIC | Modifier.FINAL);
        CHECK.due("nothing above it", type.getSuperclass() == Object.class && type.getInterfaces().length == 0 ? 1 : 0, 1);
        CHECK.same("no package", type.getPackageName(), "");
        for (Class<?> inside : type.getDeclaredClasses()) {
            int open = inside.getModifiers() & (Modifier.PUBLIC | Modifier.PROTECTED);
            CHECK.due(inside + " is not public", open, 0);
        }
    }

    /** "Ahead of the calls ... the interface says: ---- ...": in the file the same headings, each ahead of the same calls. */
    private static void headings(String document, String source) {
        Matcher row = Pattern.compile("Ahead of the calls (.*?) the interface says: (---- [^.]*)\\.").matcher(document);
        int headings = 0;
        int calls = 0;
        while (row.find()) {
            String want = row.group(1).replaceAll("[`,]", "");
            int at = source.indexOf("// " + row.group(2) + "\n");
            CHECK.due(row.group(2) + " stands in the file", at >= 0 ? 1 : 0, 1);
            String rest = source.substring(Math.max(0, at) + 3).split("// ----", 2)[0];
            CHECK.same("behind " + row.group(2), String.join(" ", all(Pattern.compile("public int (\\w+)\\("), rest)), want);
            headings++;
            calls += want.split(" ").length;
        }
        CHECK.due("headings", headings, 5);
        CHECK.due("calls behind them", calls, 30);
    }

    /** Each promise but the first is of one call of the face, in its order. */
    private static void promises(String document, String face) {
        List<String> promised = all(Pattern.compile("## Promise \\d+: \\w+\n\n`int (\\w+\\([^)]*\\))`"), document);
        CHECK.same("the promised calls", promised.toString(), all(METHOD, face).toString());
    }
}
