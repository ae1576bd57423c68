import java.io.IOException;
import java.lang.reflect.InvocationTargetException;
import java.net.URL;
import java.net.URLClassLoader;
import java.nio.file.Files;
import java.nio.file.Path;
import java.util.ArrayList;
import java.util.Comparator;
import java.util.List;
import java.util.Set;
import java.util.TreeSet;
import java.util.regex.Matcher;
import java.util.regex.Pattern;
import java.util.stream.Stream;
import javax.tools.JavaCompiler;
import javax.tools.ToolProvider;

/** The Java of README.md, compiled as it stands; each call with a comment answers what the comment begins with. */
public final class ReadmeTest {
    private static final Check CHECK = new Check();
    private static final Pattern BLOCK = Pattern.compile("```java\n(.*?)```", Pattern.DOTALL);
    private static final Pattern ANSWERED = Pattern.compile("^\\s*(\\w+\\.(\\w+)\\(.*\\));\\s*// (-?\\d+|[A-Z]+): .*$");
    private static final Set<String> REFUSALS = Set.of("NONE", "UNKNOWN", "OUTSIDE", "NOT", "FULL");

    /** What the rows of the page call for each answer. */
    public static void due(String call, int got, int want) {
        CHECK.due("README.md: " + call, got, want);
    }

    public static void main(String[] args) throws Exception {
        String page = Files.readString(Path.of("README.md"));
        Set<String> shown = new TreeSet<>();
        run(programOf(page, shown));
        everyCallIsShown(shown);
        everyTestIsNamed(page);
        CHECK.end();
    }

    private static String programOf(String page, Set<String> shown) {
        StringBuilder program = new StringBuilder("public final class ReadmeRows {\n    public static void run() {\n");
        Matcher block = BLOCK.matcher(page);
        while (block.find()) {
            for (String line : block.group(1).split("\n")) {
                program.append(rowOf(line, shown)).append('\n');
            }
        }
        return program.append("    }\n}\n").toString();
    }

    private static String rowOf(String line, Set<String> shown) {
        Matcher answered = ANSWERED.matcher(line);
        if (!answered.matches()) {
            CHECK.same("a comment without an answer", line.contains("//") ? line : "", "");
            Matcher call = Pattern.compile("\\b[xy]\\.(\\w+)\\(").matcher(line);
            while (call.find()) {
                shown.add(call.group(1));
            }
            return line;
        }
        shown.add(answered.group(2));
        String call = answered.group(1);
        String want = answered.group(3);
        want = REFUSALS.contains(want) ? "WeddingReasons." + want : want;
        return "ReadmeTest.due(\"" + call.replace("\"", "\\\"") + "\", " + call + ", " + want + ");";
    }

    private static void run(String program) throws IOException, ReflectiveOperationException {
        JavaCompiler compiler = ToolProvider.getSystemJavaCompiler();
        Path folder = Files.createTempDirectory("readme");
        try {
            Path file = folder.resolve("ReadmeRows.java");
            Files.writeString(file, program);
            String path = System.getProperty("java.class.path");
            int failed = compiler.run(null, null, null, "-d", folder.toString(), "-cp", path, file.toString());
            CHECK.due("the rows of README.md compile", failed, 0);
            if (failed == 0) {
                runCompiled(folder);
            }
        } finally {
            remove(folder);
        }
    }

    private static void runCompiled(Path folder) throws IOException, ReflectiveOperationException {
        try (URLClassLoader loader = new URLClassLoader(new URL[] {folder.toUri().toURL()})) {
            loader.loadClass("ReadmeRows").getMethod("run").invoke(null);
        } catch (InvocationTargetException thrown) {
            CHECK.same("the rows of README.md throw", String.valueOf(thrown.getCause()), "");
        }
    }

    private static void remove(Path folder) throws IOException {
        List<Path> files = new ArrayList<>();
        try (Stream<Path> all = Files.walk(folder)) {
            all.sorted(Comparator.reverseOrder()).forEach(files::add);
        }
        for (Path file : files) {
            Files.delete(file);
        }
    }

    private static void everyCallIsShown(Set<String> shown) {
        Set<String> calls = new TreeSet<>();
        for (var method : WeddingReasons.class.getMethods()) {
            if (method.getDeclaringClass() == WeddingReasons.class) {
                calls.add(method.getName());
            }
        }
        CHECK.same("the calls that README.md shows", shown.toString(), calls.toString());
    }

    private static void everyTestIsNamed(String page) throws IOException {
        Set<String> tests = new TreeSet<>();
        try (Stream<Path> files = Files.list(Path.of("src/test/java"))) {
            files.map(file -> file.getFileName().toString().replace(".java", ""))
                    .filter(name -> name.endsWith("Test")).forEach(tests::add);
        }
        Set<String> named = new TreeSet<>();
        Matcher row = Pattern.compile("\n\\| (\\w+Test) \\|").matcher(page);
        while (row.find()) {
            named.add(row.group(1));
        }
        CHECK.same("the tests that README.md names", named.toString(), tests.toString());
    }
}
