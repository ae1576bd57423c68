import java.io.IOException;
import java.lang.reflect.Constructor;
import java.lang.reflect.Field;
import java.lang.reflect.Method;
import java.lang.reflect.Modifier;
import java.nio.file.Files;
import java.nio.file.Path;
import java.util.Arrays;
import java.util.HashSet;
import java.util.List;
import java.util.Set;
import java.util.TreeSet;
import java.util.regex.Matcher;
import java.util.regex.Pattern;

/** The face of the document, and what LANGUAGE.md rules out, as far as a look at the file tells. */
public final class LanguageTest {
    private static final Check CHECK = new Check();
    private static final List<String> FACE = List.of(
            "feed(int)", "deanery()", "fault()", "told(int)", "couple(int,int)", "objector(int,int)", "box(int,int)",
            "against(int,int,int)", "stand(int,int)", "year(int)", "teach(int,int,boolean)", "hear(int,int,int)",
            "practise(int,int)", "sour(int,int)", "drift(int)", "undo()", "soonest(int,int)", "match(int)",
            "rounds(int,int,int)", "holds(int,int)", "dry(int,int)", "say(int,int,int)", "weights(int)", "ask()",
            "write(int,int)", "tear()", "judge()", "seed(int)", "keep(int)", "goBack(int)");
    private static final List<String> CONSTANTS = List.of("NONE", "UNKNOWN", "OUTSIDE", "NOT", "FULL");
    private static final String RULED_OUT = "\\b(throw|throws|try|catch|synchronized|assert|import\\s+static|Object|protected"
            + "|volatile|transient|native|System\\.(?!arraycopy)\\w+|Math\\.\\w+Exact|Random|Thread|double|float|hashCode|toString)\\b|->|::";

    public static void main(String[] args) throws IOException {
        face();
        String source = Files.readString(Path.of("src/main/java/WeddingReasons.java"));
        String code = source.replaceAll("(?s)/\\*.*?\\*/", "").replaceAll("//[^\n]*", "");
        ruledOut(code);
        imports(code);
        methodLengths(code);
        CHECK.end();
    }

    private static void face() {
        Class<?> type = WeddingReasons.class;
        Set<String> seen = new TreeSet<>();
        Set<String> names = new HashSet<>();
        for (Method method : type.getDeclaredMethods()) {
            if (Modifier.isPrivate(method.getModifiers())) {
                continue;
            }
            names.add(method.getName());
            String types = String.join(",", Arrays.stream(method.getParameterTypes()).map(Class::getName).toList());
            seen.add(method.getName() + "(" + types + ")");
            CHECK.same(method.getName() + " answers", method.getReturnType().getName(), "int");
            CHECK.due(method.getName() + " is public", method.getModifiers(), Modifier.PUBLIC);
        }
        CHECK.same("the methods", seen.toString(), new TreeSet<>(FACE).toString());
        for (Field field : type.getDeclaredFields()) {
            boolean open = !Modifier.isPrivate(field.getModifiers());
            CHECK.due(field.getName() + " is of the face", open ? 1 : 0, CONSTANTS.contains(field.getName()) ? 1 : 0);
        }
        for (Constructor<?> made : type.getDeclaredConstructors()) {
            CHECK.due("the constructor", made.getParameterCount() * 100 + made.getModifiers(), Modifier.PUBLIC);
        }
        CHECK.due("the class", type.getModifiers(), Modifier.PUBLIC | Modifier.FINAL);
        insides(type, names);
    }

    private static void insides(Class<?> type, Set<String> names) {
        Class<?>[] inside = type.getDeclaredClasses();
        CHECK.due("twelve classes at most", inside.length <= 11 ? 1 : 0, 1);
        for (Class<?> one : inside) {
            CHECK.due(one + " is static and not public", one.getModifiers() & (Modifier.STATIC | Modifier.PUBLIC), Modifier.STATIC);
            for (Field field : one.getDeclaredFields()) {
                int still = Modifier.STATIC & field.getModifiers();
                CHECK.due(field + " is final if static", still == 0 || Modifier.isFinal(field.getModifiers()) ? 1 : 0, 1);
            }
            for (Method method : one.getDeclaredMethods()) {
                boolean twice = Modifier.isPrivate(method.getModifiers()) && names.contains(method.getName());
                CHECK.due(method + " bears a public name", twice ? 1 : 0, 0);
                CHECK.due(method + " has seven parameters at most", method.getParameterCount() <= 7 ? 1 : 0, 1);
            }
        }
        for (Method method : type.getDeclaredMethods()) {
            boolean twice = Modifier.isPrivate(method.getModifiers()) && names.contains(method.getName());
            CHECK.due(method + " bears a public name", twice ? 1 : 0, 0);
        }
    }

    private static void ruledOut(String code) {
        Matcher found = Pattern.compile(RULED_OUT).matcher(code);
        CHECK.same("what is ruled out", found.find() ? found.group() : "", "");
        CHECK.due("signs 1 to 127", code.chars().allMatch(sign -> sign > 0 && sign < 128) ? 1 : 0, 1);
    }

    private static void imports(String code) {
        Matcher found = Pattern.compile("import\\s+([^;]+);").matcher(code);
        while (found.find()) {
            boolean fine = List.of("java.util.Arrays", "java.util.ArrayList", "java.util.List").contains(found.group(1));
            CHECK.due("import " + found.group(1), fine ? 1 : 0, 1);
        }
        CHECK.due("no package", code.contains("package ") ? 1 : 0, 0);
    }

    private static void methodLengths(String code) {
        Matcher method = Pattern.compile("\n( +)[^\n;=]*\\([^\n;]*\\) \\{\n(.*?)\n\\1\\}", Pattern.DOTALL).matcher(code);
        while (method.find()) {
            int lines = method.group(2).split("\n").length;
            CHECK.due("at most sixty lines: " + method.group().trim().split("\n")[0], lines <= 60 ? 1 : 0, 1);
        }
    }
}
