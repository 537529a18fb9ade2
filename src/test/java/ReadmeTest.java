import java.io.IOException;
import java.io.StringWriter;
import java.net.URL;
import java.net.URLClassLoader;
import java.nio.file.Files;
import java.nio.file.Path;
import java.util.ArrayList;
import java.util.List;
import java.util.function.Supplier;
import java.util.regex.Matcher;
import java.util.regex.Pattern;
import javax.tools.JavaCompiler;
import javax.tools.JavaFileObject;
import javax.tools.StandardJavaFileManager;
import javax.tools.ToolProvider;

/**
 * The examples of README.md: they are taken from the page, compiled as one program, and every call with an answer
 * behind it ("call;  // answer: what it means") is compared with that answer. README.md must be in the directory
 * in which the test is run, or be named as its argument.
 */
public final class ReadmeTest {
    private static final String NAME = "ReadmeExamples";
    private static final Pattern ANSWERED = Pattern.compile("(x\\.[a-zA-Z]+\\(.*\\));\\s*// (.*)");
    private static final Pattern ANSWER = Pattern.compile("(-?\\d+(?:\\.\\d+)?|true|false|throws \\w+): \\S.*");
    private static final Pattern STATEMENT = Pattern.compile("[^/]*;");

    private ReadmeTest() {
    }

    public static void main(String[] args) throws IOException, ReflectiveOperationException {
        Path page = Path.of(args.length > 0 ? args[0] : "README.md");
        String program = programOf(examplesOf(Files.readAllLines(page)));
        Path directory = Files.createTempDirectory("readme");
        try {
            if (isCompiled(program, directory)) {
                run(directory);
            }
        } finally {
            for (String file : List.of(NAME + ".class", NAME + ".java", "")) {
                Files.deleteIfExists(directory.resolve(file));
            }
        }
        Check.end();
    }

    /** Called by the program of the examples, for each call that has an answer. */
    public static void due(String call, String want, Supplier<Object> example) {
        String got;
        try {
            got = String.valueOf(example.get());
        } catch (RuntimeException e) {
            got = "throws " + e.getClass().getSimpleName();
        }
        Check.same(call, want, got);
    }

    // ---- the page

    private static List<List<String>> examplesOf(List<String> page) {
        List<List<String>> examples = new ArrayList<>();
        boolean isInside = false;
        for (String line : page) {
            if (line.startsWith("```")) {
                isInside = !isInside && line.equals("```java");
                if (isInside) {
                    examples.add(new ArrayList<>());
                }
            } else if (isInside) {
                examples.get(examples.size() - 1).add(line);
            }
        }
        return examples;
    }

    private static String programOf(List<List<String>> examples) {
        StringBuilder methods = new StringBuilder();
        StringBuilder calls = new StringBuilder();
        for (List<String> example : examples) {
            if (example.get(0).startsWith("static ")) {
                methods.append(String.join("\n", example)).append('\n');
            } else {
                for (String line : example) {
                    calls.append(statementOf(line)).append('\n');
                }
            }
        }
        return "public final class " + NAME + " {\n" + methods
            + "public static void example() {\n" + calls + "}\n}\n";
    }

    private static String statementOf(String line) {
        Matcher answered = ANSWERED.matcher(line);
        if (answered.matches()) {
            Matcher answer = ANSWER.matcher(answered.group(2));
            Check.same("an answer is told: " + line, 1, answer.matches() ? 1 : 0);
            String call = answered.group(1);
            return answer.matches() ? "ReadmeTest.due(" + quoted(call) + ", " + quoted(answer.group(1)) + ", () -> "
                + call + ");" : "";
        }
        Check.same("a statement, or a call with an answer: " + line, 1, STATEMENT.matcher(line).matches() ? 1 : 0);
        return line;
    }

    private static String quoted(String text) {
        return '"' + text.replace("\\", "\\\\").replace("\"", "\\\"") + '"';
    }

    // ---- the program of the examples

    private static boolean isCompiled(String program, Path directory) throws IOException {
        JavaCompiler compiler = ToolProvider.getSystemJavaCompiler();
        if (compiler == null) {
            Check.tell("there is no compiler");
            return false;
        }
        Path source = directory.resolve(NAME + ".java");
        Files.writeString(source, program);
        StringWriter said = new StringWriter();
        boolean isCompiled;
        try (StandardJavaFileManager files = compiler.getStandardFileManager(null, null, null)) {
            Iterable<? extends JavaFileObject> sources = files.getJavaFileObjects(source);
            List<String> options = List.of("-Xlint:all", "-cp", System.getProperty("java.class.path"),
                "-d", directory.toString());
            isCompiled = compiler.getTask(said, files, null, options, null, sources).call();
        }
        if (!isCompiled || said.getBuffer().length() > 0) {
            Check.tell("the examples of README.md do not compile:\n" + said);
        }
        return isCompiled;
    }

    private static void run(Path directory) throws IOException, ReflectiveOperationException {
        URL[] places = {directory.toUri().toURL()};
        try (URLClassLoader loader = new URLClassLoader(places, ReadmeTest.class.getClassLoader())) {
            loader.loadClass(NAME).getMethod("example").invoke(null);
        }
    }
}
