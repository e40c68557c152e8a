import java.lang.reflect.Method;
import java.net.URL;
import java.net.URLClassLoader;
import java.nio.file.Files;
import java.nio.file.Path;
import java.util.ArrayList;
import java.util.List;
import java.util.Set;
import java.util.TreeSet;
import java.util.regex.Matcher;
import java.util.regex.Pattern;
import javax.tools.ToolProvider;

/**
 * The examples of README.md, compiled and run as they stand there: a line "x.call(..); // answer: words" answers what
 * it says. The blocks follow one another in one method, so that they use one object. Each call of the face is shown.
 */
public final class ReadmeTest {
    private static final Path README = Path.of("README.md");
    private static final Pattern BLOCK = Pattern.compile("```java\n(.*?)```", Pattern.DOTALL);
    private static final Pattern EXAMPLE = Pattern.compile("(x\\.(\\w+)\\(.*\\)); +// (-?\\d+): .*");
    private static final String HEAD = "public final class ReadmeExamples {\n    public static long[] run() {\n"
        + "long[] answers = new long[512];\n";
    private static final String FOOT = "return answers;\n    }\n}\n";
    private static final Due d = new Due("ReadmeTest");

    private final StringBuilder body = new StringBuilder();
    private final List<String> calls = new ArrayList<>();
    private final List<Long> wanted = new ArrayList<>();
    private final Set<String> names = new TreeSet<>();

    public static void main(String[] args) throws Exception {
        ReadmeTest test = new ReadmeTest();
        Matcher block = BLOCK.matcher(Files.readString(README));
        while (block.find()) {
            for (String line : block.group(1).split("\n")) {
                test.take(line);
            }
        }
        test.compare(answersOf(HEAD + test.body + FOOT));
        d.end();
    }

    /** A line that tells an answer asks for it; the others stand as they are. */
    private void take(String line) {
        Matcher example = EXAMPLE.matcher(line);
        if (!example.matches()) {
            d.due("a remark that tells no answer: " + line, line.contains("//") ? 1 : 0, 0);
            body.append(line).append('\n');
            return;
        }
        body.append("answers[").append(calls.size()).append("] = ").append(example.group(1)).append(";\n");
        calls.add(example.group(1));
        names.add(example.group(2));
        wanted.add(Long.valueOf(example.group(3)));
    }

    private void compare(long[] answers) {
        for (int i = 0; i < calls.size(); i++) {
            d.due("example " + (i + 1) + ", " + calls.get(i), answers[i], wanted.get(i));
        }
        Set<String> face = new TreeSet<>();
        for (Method method : ShorthandCourt.class.getMethods()) {
            if (method.getDeclaringClass() == ShorthandCourt.class) {
                face.add(method.getName());
            }
        }
        d.same("the calls that are shown", names.toString(), face.toString());
    }

    private static long[] answersOf(String program) throws Exception {
        Path dir = Files.createTempDirectory("readme");
        Path source = dir.resolve("ReadmeExamples.java");
        Files.writeString(source, program);
        String classes = System.getProperty("java.class.path");
        int failed = ToolProvider.getSystemJavaCompiler()
            .run(null, null, null, "-cp", classes, "-d", dir.toString(), source.toString());
        if (failed != 0) {
            throw new IllegalStateException("the examples do not compile, see " + source);
        }
        try (URLClassLoader loader = new URLClassLoader(new URL[] {dir.toUri().toURL()})) {
            return (long[]) loader.loadClass("ReadmeExamples").getMethod("run").invoke(null);
        } finally {
            Files.delete(source);
            Files.delete(dir.resolve("ReadmeExamples.class"));
            Files.delete(dir);
        }
    }
}
