import java.io.IOException;
import java.lang.reflect.Method;
import java.lang.reflect.Modifier;
import java.net.URL;
import java.net.URLClassLoader;
import java.nio.file.Files;
import java.nio.file.Path;
import java.util.ArrayList;
import java.util.List;
import java.util.TreeSet;
import java.util.regex.Matcher;
import java.util.regex.Pattern;
import java.util.stream.Stream;
import javax.tools.JavaCompiler;
import javax.tools.ToolProvider;

/** README.md: its example is compiled and run as it stands there, and names every call and test. */
public final class ReadmeTest {
    private static final Pattern EXAMPLE = Pattern.compile("(?s)```java\n(.*?)```");
    private static final Pattern CALL = Pattern.compile("builder\\.(\\w+)\\(([^)]*)\\);");
    /** A call with the answer that is said of it: a number, alone or with words after a colon. */
    private static final Pattern SAID = Pattern.compile("(builder\\.\\w+\\([^)]*\\));\\s*// (-?\\d+)(:.*)?");

    private final String text;
    private final List<String> lines;

    private ReadmeTest(String text) {
        this.text = text;
        Matcher example = EXAMPLE.matcher(text);
        lines = example.find() ? example.group(1).lines().toList() : List.of();
        Check.holds("there is one example, not two", !example.find());
    }

    public static void main(String[] args) throws IOException {
        ReadmeTest readme = new ReadmeTest(Files.readString(Path.of("README.md")));
        Check.test("README.md, the example makes every call, and says each answer", readme::exampleIsWhole);
        Check.test("README.md, the example answers what is said there", readme::exampleAnswers);
        Check.test("README.md, every call of the public face is told", readme::callsAreTold);
        Check.test("README.md, how the tests are run, and every one of them", readme::testsAreTold);
        Check.finish();
    }

    private static List<Method> face() {
        return Stream.of(UnitigBuilder.class.getDeclaredMethods())
            .filter(method -> Modifier.isPublic(method.getModifiers())).toList();
    }

    private void exampleIsWhole() {
        TreeSet<String> unused = new TreeSet<>();
        TreeSet<String> answering = new TreeSet<>();
        for (Method method : face()) {
            unused.add(method.getName());
            if (method.getReturnType() == int.class) {
                answering.add(method.getName());
            }
        }
        for (String line : lines) {
            Matcher call = CALL.matcher(line);
            if (call.find()) {
                unused.remove(call.group(1));
                boolean said = SAID.matcher(line).matches();
                Check.holds("an answer where there is one: " + line, said == answering.contains(call.group(1)));
                Check.holds("one call in a line: " + line, !call.find());
            }
        }
        Check.holds("calls that are not in the example: " + unused, unused.isEmpty());
    }

    private void exampleAnswers() {
        List<String> calls = new ArrayList<>();
        List<Integer> said = new ArrayList<>();
        StringBuilder body = new StringBuilder();
        for (String line : lines) {
            Matcher saying = SAID.matcher(line);
            if (saying.matches()) {
                calls.add(saying.group(1));
                said.add(Integer.valueOf(saying.group(2)));
                body.append("answers.add(").append(saying.group(1)).append(");\n");
            } else {
                body.append(line).append('\n');
            }
        }
        List<?> answers = answersOf(body.toString());
        Check.due("answers", answers.size(), said.size());
        for (int at = 0; at < Math.min(answers.size(), said.size()); at++) {
            Check.due("answer " + (at + 1) + ", " + calls.get(at), (Integer) answers.get(at), said.get(at));
        }
    }

    private static List<?> answersOf(String body) {
        try {
            Path directory = Files.createTempDirectory("readme");
            try {
                return compileAndRun(directory, body);
            } finally {
                try (Stream<Path> files = Files.list(directory)) {
                    for (Path file : files.toList()) {
                        Files.delete(file);
                    }
                }
                Files.delete(directory);
            }
        } catch (IOException | ReflectiveOperationException thrown) {
            Check.holds("the example could be run, not " + thrown, false);
            return List.of();
        }
    }

    private static List<?> compileAndRun(Path directory, String body)
            throws IOException, ReflectiveOperationException {
        Path source = directory.resolve("ReadmeExample.java");
        Files.writeString(source, "public final class ReadmeExample {\n"
            + "public static java.util.List<Integer> run() {\n"
            + "java.util.List<Integer> answers = new java.util.ArrayList<>();\n"
            + body + "return answers;\n}\n}\n");
        JavaCompiler compiler = ToolProvider.getSystemJavaCompiler();
        int ended = compiler.run(null, System.out, System.out, "--release", "17",
            "-cp", System.getProperty("java.class.path"), "-d", directory.toString(), source.toString());
        Check.due("the compiler's exit code", ended, 0);
        try (URLClassLoader loader = new URLClassLoader(new URL[] {directory.toUri().toURL()})) {
            return (List<?>) loader.loadClass("ReadmeExample").getMethod("run").invoke(null);
        }
    }

    private void callsAreTold() {
        Check.holds("the constructor", text.contains("| `new UnitigBuilder("));
        for (Method method : face()) {
            Check.holds(method.getName(), text.contains("| `" + method.getName() + "("));
        }
    }

    private void testsAreTold() {
        Check.holds("the script", text.contains("\n.ci/run\n") && Files.exists(Path.of(".ci/run")));
        Check.holds("the shared tests", text.contains("`../shared/tests/*.java`"));
        try (Stream<Path> files = Files.list(Path.of("src/test/java"))) {
            for (Path file : files.toList()) {
                String name = file.getFileName().toString().replace(".java", "");
                Check.holds(name, !name.endsWith("Test") || text.contains("`" + name + "`"));
            }
        } catch (IOException thrown) {
            Check.holds("the tests could be listed, not " + thrown, false);
        }
    }
}
