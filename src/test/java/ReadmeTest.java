import java.io.IOException;
import java.io.StringWriter;
import java.lang.reflect.InvocationTargetException;
import java.lang.reflect.Method;
import java.lang.reflect.Modifier;
import java.net.URL;
import java.net.URLClassLoader;
import java.nio.file.Files;
import java.nio.file.Path;
import java.util.ArrayList;
import java.util.List;
import java.util.regex.Matcher;
import java.util.regex.Pattern;
import javax.tools.JavaCompiler;
import javax.tools.ToolProvider;

/** What README.md says: its examples compile and answer so, and the files that it names are there. */
public final class ReadmeTest {
    private static final Checks CHECKS = new Checks("ReadmeTest");
    private static final Path README = Path.of("README.md");
    private static final Path TESTS = Path.of("src/test/java");
    private static final Path BUILD = Path.of("build/readme");
    private static final Pattern BLOCK = Pattern.compile("(?ms)^```java\n(.*?)^```$");
    private static final Pattern SHOWN = Pattern.compile(
        "(?:(int|long|boolean) (\\w+) = )?(desk\\.(\\w+)\\(.*\\)); +// (-?\\w+)(: .*)?");
    private static final String MADE = "StraightPages desk = new StraightPages();";

    /** What an example's call answered: its line, the answer that the line says, the one that came. */
    public interface Told {
        void answer(String line, String want, String got);
    }

    public static void main(String[] args) throws Exception {
        String text = Files.readString(README);
        List<String> shown = examples(text);
        everyCallIsShown(shown);
        namedFiles(text);
        runs(text);
        CHECKS.end();
    }

    /** All examples answer as they say; the names of the calls that they show. */
    private static List<String> examples(String text) throws Exception {
        List<String> calls = new ArrayList<>();
        List<String> blocks = new ArrayList<>();
        Matcher block = BLOCK.matcher(text);
        while (block.find()) {
            blocks.add(method(block.group(1), "example" + blocks.size(), calls));
        }
        CHECKS.hold("there are no examples", !blocks.isEmpty());
        Class<?> compiled = compile("ReadmeExamples", String.join("\n", blocks));
        if (compiled == null) {
            CHECKS.hold("the examples do not compile", false);
            return calls;
        }
        int[] answered = {0};
        Told told = (line, want, got) -> {
            answered[0]++;
            CHECKS.hold(line + " answered " + got, want.equals(got));
        };
        for (int i = 0; i < blocks.size(); i++) {
            try {
                compiled.getMethod("example" + i, Told.class).invoke(null, told);
            } catch (InvocationTargetException e) {
                CHECKS.hold("example " + i + " threw " + e.getCause(), false);
            }
        }
        CHECKS.due("calls that answered", calls.size(), answered[0]);
        return calls;
    }

    /** An example as a method that tells the answer of each line. */
    private static String method(String block, String name, List<String> calls) {
        StringBuilder code = new StringBuilder();
        code.append("public static void ").append(name).append("(ReadmeTest.Told told) {\n");
        for (String line : block.split("\n")) {
            Matcher shown = SHOWN.matcher(line);
            if (line.equals(MADE)) {
                code.append(line).append('\n');
            } else if (shown.matches()) {
                calls.add(shown.group(4));
                code.append(told(shown, line.replaceAll(" +// ", " is to answer ")));
            } else {
                CHECKS.hold("no call with its answer: " + line, false);
            }
        }
        return code.append("}\n").toString();
    }

    private static String told(Matcher shown, String line) {
        String want = shown.group(5);
        String tell = "told.answer(\"" + line.replace("\"", "\\\"") + "\", \"" + want + "\", ";
        String answer = shown.group(3);
        if (want.endsWith("Exception")) {
            return "try { " + tell + "\"\" + " + answer + "); } catch (RuntimeException e) { "
                + tell + "e.getClass().getSimpleName()); }\n";
        }
        if (shown.group(1) == null) {
            return tell + "\"\" + " + answer + ");\n";
        }
        return shown.group(1) + " " + shown.group(2) + " = " + answer + ";\n"
            + tell + "\"\" + " + shown.group(2) + ");\n";
    }

    /** The class of these methods, loaded; null if they do not compile. */
    private static Class<?> compile(String name, String methods) throws Exception {
        Files.createDirectories(BUILD);
        Path file = BUILD.resolve(name + ".java");
        Files.writeString(file, "public final class " + name + " {\n" + methods + "}\n");
        JavaCompiler compiler = ToolProvider.getSystemJavaCompiler();
        if (compiler == null) {
            return null;
        }
        StringWriter said = new StringWriter();
        boolean good = compiler.getTask(said, null, null,
            List.of("-d", BUILD.toString(), "-cp", System.getProperty("java.class.path")), null,
            compiler.getStandardFileManager(null, null, null).getJavaFileObjects(file)).call();
        System.out.print(said);
        URL[] places = {BUILD.toUri().toURL()};
        return good ? new URLClassLoader(places, ReadmeTest.class.getClassLoader()).loadClass(name) : null;
    }

    private static void everyCallIsShown(List<String> shown) {
        for (Method method : StraightPages.class.getDeclaredMethods()) {
            if (Modifier.isPublic(method.getModifiers())) {
                CHECKS.hold("no example shows " + method.getName(), shown.contains(method.getName()));
            }
        }
    }

    private static void namedFiles(String text) throws IOException {
        Matcher path = Pattern.compile("`((?:\\.\\./shared|src|\\.ci)/[^`* ]*)`").matcher(text);
        while (path.find()) {
            CHECKS.hold("there is no " + path.group(1), Files.exists(Path.of(path.group(1))));
        }
        Matcher kind = Pattern.compile("`(\\w+(?:Edges|Test|Pages))(?:\\.java)?`").matcher(text);
        while (kind.find()) {
            CHECKS.hold("there is no " + kind.group(1), Files.exists(TESTS.resolve(kind.group(1) + ".java")));
        }
        try (var files = Files.list(TESTS)) {
            for (Path file : files.toList()) {
                String name = file.toString();
                CHECKS.hold(name + " is not named", !name.endsWith("Test.java") || text.contains("`" + name + "`"));
            }
        }
    }

    private static void runs(String text) {
        String said = ModelTest.RUNS + " runs of " + ModelTest.CALLS + " calls";
        CHECKS.hold("ModelTest has " + said, text.contains(said));
    }
}
