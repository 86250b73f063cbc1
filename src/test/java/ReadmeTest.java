import java.io.IOException;
import java.lang.reflect.InvocationTargetException;
import java.lang.reflect.Method;
import java.lang.reflect.Modifier;
import java.net.URL;
import java.net.URLClassLoader;
import java.nio.file.Files;
import java.nio.file.Path;
import java.util.ArrayList;
import java.util.Comparator;
import java.util.List;
import java.util.regex.Matcher;
import java.util.regex.Pattern;
import java.util.stream.Stream;
import javax.tools.ToolProvider;

/** The examples of README.md answer what stands behind them, and README.md names every call and every test. */
public final class ReadmeTest {
    private static final Path README = Path.of("README.md");
    private static final Path TESTS = Path.of("src/test/java");
    private static final Pattern BLOCK = Pattern.compile("```java\n(.*?)```", Pattern.DOTALL);
    private static final Pattern ANSWERED = Pattern.compile("(?:int (\\w) = )?(.*\\)); *// (-?\\d+|true|false)(:.*)?");
    private static final String REPORTED = "`report` tells `(.*?)`";

    private static int wrong = 0;
    private static int checked = 0;

    private ReadmeTest() {
    }

    private static void check(boolean fine, String what) {
        if (!fine) {
            wrong++;
            System.out.println(what);
        }
    }

    /** Called by the examples. */
    public static void due(String line, Object got, Object want) {
        checked++;
        check(got.equals(want), line + " answered " + got);
    }

    public static void main(String[] args) throws Exception {
        String readme = Files.readString(README);
        for (Method method : ClinchClock.class.getDeclaredMethods()) {
            boolean shown = Modifier.isPublic(method.getModifiers());
            check(!shown || readme.contains("`" + method.getName() + "`"), method.getName() + " is not named");
        }
        try (Stream<Path> tests = Files.list(TESTS)) {
            tests.map(p -> p.getFileName().toString().replace(".java", ""))
                .forEach(name -> check(readme.contains("`" + name + "`"), name + " is not named"));
        }
        runExamples(sourceOf(readme));
        check(checked > 20, "only " + checked + " answers were found");
        System.out.println(wrong == 0 ? checked + " examples hold" : wrong + " faults of README.md");
        if (wrong != 0) {
            System.exit(1);
        }
    }

    /** The blocks of statements one behind the other, those of methods beside them. */
    private static String sourceOf(String readme) {
        StringBuilder methods = new StringBuilder();
        StringBuilder statements = new StringBuilder();
        Matcher block = BLOCK.matcher(readme);
        while (block.find()) {
            if (block.group(1).startsWith("static ")) {
                methods.append(block.group(1));
            } else {
                block.group(1).lines().forEach(line -> statements.append(statementOf(line)).append('\n'));
            }
        }
        Matcher reported = Pattern.compile(REPORTED).matcher(readme);
        check(reported.find(), "no report is told");
        statements.append("StringBuilder s = new StringBuilder();\n"
            + "for (int i = 0; i < x.report(0, -1); i++) { s.append((char) x.report(0, i)); }\n"
            + "ReadmeTest.due(\"report\", s.toString(), \"" + reported.group(1) + "\");\n");
        return "public final class Examples {\n" + methods + "public static void run() {\n" + statements + "}\n}\n";
    }

    private static String statementOf(String line) {
        Matcher m = ANSWERED.matcher(line);
        if (!m.matches()) {
            return line;
        }
        String name = m.group(1);
        String ahead = name == null ? "" : "int " + name + " = " + m.group(2) + "; ";
        String quoted = line.replace("\\", "\\\\").replace("\"", "\\\"");
        return ahead + "ReadmeTest.due(\"" + quoted + "\", " + (name == null ? m.group(2) : name) + ", " + m.group(3) + ");";
    }

    private static void runExamples(String source) throws Exception {
        Path folder = Files.createTempDirectory("readme");
        try {
            Path file = Files.writeString(folder.resolve("Examples.java"), source);
            int failed = ToolProvider.getSystemJavaCompiler().run(null, null, null, "-cp",
                System.getProperty("java.class.path"), "-proc:none", "-d", folder.toString(), file.toString());
            check(failed == 0, "the examples can't be compiled:\n" + source);
            if (failed == 0) {
                call(folder);
            }
        } finally {
            remove(folder);
        }
    }

    private static void call(Path folder) throws Exception {
        URL[] urls = {folder.toUri().toURL()};
        try (URLClassLoader loader = new URLClassLoader(urls, ReadmeTest.class.getClassLoader())) {
            loader.loadClass("Examples").getMethod("run").invoke(null);
        } catch (InvocationTargetException e) {
            check(false, "the examples threw " + e.getCause());
        }
    }

    private static void remove(Path folder) throws IOException {
        List<Path> inside = new ArrayList<>();
        try (Stream<Path> all = Files.walk(folder)) {
            all.sorted(Comparator.reverseOrder()).forEach(inside::add);
        }
        for (Path path : inside) {
            Files.delete(path);
        }
    }
}
