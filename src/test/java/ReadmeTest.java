import java.io.IOException;
import java.lang.reflect.InvocationTargetException;
import java.lang.reflect.Method;
import java.lang.reflect.Modifier;
import java.net.URL;
import java.net.URLClassLoader;
import java.nio.file.Files;
import java.nio.file.Path;
import java.util.ArrayList;
import java.util.List;
import java.util.Set;
import java.util.TreeSet;
import java.util.regex.Matcher;
import java.util.regex.Pattern;
import java.util.stream.Stream;
import javax.tools.JavaCompiler;
import javax.tools.ToolProvider;

/**
 * The calls that README.md shows, in their order, each with the answer that it tells there: the java
 * blocks become the body of one method, in which each told answer is a check.
 */
public final class ReadmeTest {
    private static final Path README = Path.of("README.md");
    private static final Path TESTS = Path.of("src/test/java");
    /** A line with a told answer: an assignment or not, the call, the answer, and what it means. */
    private static final Pattern TOLD = Pattern.compile("(?:((?:int )?\\w+) = )?(\\S.*);\\s*// -> (.+?)(?:: .*)?");
    private static final Pattern THROWN = Pattern.compile("throws (\\w+)");
    private static final Pattern CALL = Pattern.compile("\\bx\\.(\\w+)\\(");

    private static final Set<String> CALLS_SHOWN = new TreeSet<>();
    private static final Set<String> ANSWERS_SHOWN = new TreeSet<>();
    private static int answers = 0;
    private static int wrong = 0;

    public static void main(String[] args) throws Exception {
        List<String> lines = Files.readAllLines(README);
        run(bodyOf(lines));
        everyCallIsShown();
        everyTestIsNamed(String.join("\n", lines));
        System.out.println(wrong == 0 ? answers + " answers are as README.md tells them" : wrong + " faults of README.md");
        if (wrong != 0 || answers == 0) {
            System.exit(1);
        }
    }

    private static void fault(String what) {
        wrong++;
        System.out.println(what);
    }

    /** A check of a call's answer, for the lines that are made of the README's. */
    public static void due(String line, Object got, Object want) {
        answers++;
        boolean same = got instanceof Number && want instanceof Number && !(got instanceof Double || want instanceof Double)
                ? ((Number) got).longValue() == ((Number) want).longValue()
                : got.equals(want);
        if (!same) {
            fault(line + ": answered " + got + ", told is " + want);
        }
    }

    /** A check of what a call threw, null for nothing. */
    public static void dueThrow(String line, RuntimeException got, String want) {
        answers++;
        if (got == null || !got.getClass().getSimpleName().equals(want)) {
            fault(line + ": threw " + got + ", told is " + want);
        }
    }

    private static String bodyOf(List<String> lines) {
        StringBuilder body = new StringBuilder();
        boolean inBlock = false;
        for (int i = 0; i < lines.size(); i++) {
            String line = lines.get(i).trim();
            if (line.startsWith("```")) {
                inBlock = line.equals("```java");
            } else if (inBlock && !line.isEmpty()) {
                body.append(checked("README.md:" + (i + 1), line)).append('\n');
            }
        }
        return body.toString();
    }

    private static String checked(String where, String line) {
        Matcher told = TOLD.matcher(line);
        if (!told.matches()) {
            if (line.startsWith("x.") || line.startsWith("number(") || line.contains("->")) {
                fault(where + ": no answer can be read: " + line);
            }
            return line;
        }
        String call = told.group(2);
        String answer = told.group(3);
        String name = '"' + where + ", " + call + '"';
        Matcher shown = CALL.matcher(call);
        if (shown.find()) {
            CALLS_SHOWN.add(shown.group(1));
        }
        ANSWERS_SHOWN.add(answer);
        Matcher thrown = THROWN.matcher(answer);
        if (thrown.matches()) {
            return "thrown = null; try { " + call + "; } catch (RuntimeException e) { thrown = e; } ReadmeTest.dueThrow("
                    + name + ", thrown, \"" + thrown.group(1) + "\");";
        }
        if (told.group(1) == null) {
            return "ReadmeTest.due(" + name + ", " + call + ", " + answer + ");";
        }
        String variable = told.group(1).replace("int ", "");
        return told.group(1) + " = " + call + "; ReadmeTest.due(" + name + ", " + variable + ", " + answer + ");";
    }

    private static void run(String body) throws Exception {
        String program = "public final class ReadmeCalls {\n"
                + "static long bits(double n) { return Double.doubleToLongBits(n); }\n"
                + "static double number(long b) { return Double.longBitsToDouble(b); }\n"
                + "public static void run() {\nRuntimeException thrown;\n" + body + "}\n}\n";
        Path dir = Files.createTempDirectory("readme");
        try {
            Path file = dir.resolve("ReadmeCalls.java");
            Files.writeString(file, program);
            JavaCompiler compiler = ToolProvider.getSystemJavaCompiler();
            if (compiler == null) {
                fault("this java has no compiler, so that it cannot make the calls of README.md");
                return;
            }
            int failed = compiler.run(null, null, null, "-cp", System.getProperty("java.class.path"), "-d", dir.toString(), file.toString());
            if (failed != 0) {
                fault("the calls of README.md do not compile");
                return;
            }
            try (URLClassLoader loader = new URLClassLoader(new URL[] {dir.toUri().toURL()}, ReadmeTest.class.getClassLoader())) {
                loader.loadClass("ReadmeCalls").getMethod("run").invoke(null);
            } catch (InvocationTargetException e) {
                fault("README.md: a call threw " + e.getCause());
            }
        } finally {
            remove(dir);
        }
    }

    private static void remove(Path dir) throws IOException {
        List<Path> files = new ArrayList<>();
        try (Stream<Path> found = Files.list(dir)) {
            found.forEach(files::add);
        }
        for (Path file : files) {
            Files.delete(file);
        }
        Files.delete(dir);
    }

    private static void everyCallIsShown() {
        for (Method m : BoxIntegrals.class.getDeclaredMethods()) {
            if (Modifier.isPublic(m.getModifiers()) && !CALLS_SHOWN.contains(m.getName())) {
                fault("README.md shows no call of " + m.getName() + " with its answer");
            }
            for (Class<?> thrown : m.getExceptionTypes()) {
                if (!ANSWERS_SHOWN.contains("throws " + thrown.getSimpleName())) {
                    fault("README.md shows no call that throws " + thrown.getSimpleName());
                }
            }
        }
        for (String refusal : List.of("UNKNOWN", "OUTSIDE", "STATE", "FULL", "NONE")) {
            if (!ANSWERS_SHOWN.contains("BoxIntegrals." + refusal)) {
                fault("README.md shows no call that answers " + refusal);
            }
        }
    }

    private static void everyTestIsNamed(String readme) throws IOException {
        try (Stream<Path> files = Files.list(TESTS)) {
            files.map(file -> file.getFileName().toString().replace(".java", ""))
                    .filter(name -> !readme.contains("`" + name + "`"))
                    .forEach(name -> fault("README.md does not tell of " + name));
        }
    }
}
