import java.io.IOException;
import java.lang.reflect.Method;
import java.lang.reflect.Modifier;
import java.net.URL;
import java.net.URLClassLoader;
import java.nio.file.Files;
import java.nio.file.Path;
import java.util.ArrayList;
import java.util.List;
import java.util.regex.Matcher;
import java.util.regex.Pattern;
import javax.tools.ToolProvider;

/** What README.md shows is so: its calls, from its first block to its last, answer as it says. */
public final class ReadmeTest {
    private static final Path README = Path.of("README.md");
    private static final Pattern BLOCK = Pattern.compile("```java\n(.*?)```", Pattern.DOTALL);
    private static final Pattern ANSWERED = Pattern.compile("(x\\.\\w+\\(.*\\)); *// (-?\\d+)(:.*)?");

    private final StringBuilder source = new StringBuilder();
    private final List<String> calls = new ArrayList<>();
    private final List<Long> due = new ArrayList<>();

    public static void main(String[] args) throws IOException, ReflectiveOperationException {
        ReadmeTest test = new ReadmeTest();
        test.read(Files.readString(README));
        test.everyCallIsShown();
        test.answersAreAsShown();
        Due.end();
    }

    private void read(String readme) {
        source.append("public final class Readme {\n    public static long[] answers() {\n")
            .append("        java.util.List<Long> answers = new java.util.ArrayList<>();\n");
        Matcher block = BLOCK.matcher(readme);
        while (block.find()) {
            block.group(1).lines().forEach(this::readLine);
        }
        source.append("        return answers.stream().mapToLong(Long::longValue).toArray();\n    }\n}\n");
    }

    private void readLine(String line) {
        Matcher answered = ANSWERED.matcher(line);
        if (!answered.matches()) {
            Due.is("README.md, a call without its answer: " + line, line.startsWith("x.") ? 1 : 0, 0);
            source.append(line).append('\n');
            return;
        }
        calls.add(answered.group(1));
        due.add(Long.parseLong(answered.group(2)));
        source.append("answers.add((long) ").append(answered.group(1)).append(");\n");
    }

    private void everyCallIsShown() {
        for (Method one : FogSheets.class.getDeclaredMethods()) {
            if (Modifier.isPublic(one.getModifiers())) {
                boolean shown = source.indexOf("x." + one.getName() + "(") >= 0;
                Due.is("README.md shows " + one.getName(), shown ? 1 : 0, 1);
            }
        }
    }

    private void answersAreAsShown() throws IOException, ReflectiveOperationException {
        Path out = Files.createTempDirectory("readme");
        try {
            Path file = Files.writeString(out.resolve("Readme.java"), source);
            int failed = ToolProvider.getSystemJavaCompiler().run(null, null, null, "-d", out.toString(), "-cp",
                System.getProperty("java.class.path"), file.toString());
            Due.is("README.md compiles", failed, 0);
            if (failed == 0) {
                compare(run(out));
            }
        } finally {
            Files.deleteIfExists(out.resolve("Readme.class"));
            Files.deleteIfExists(out.resolve("Readme.java"));
            Files.deleteIfExists(out);
        }
    }

    private static long[] run(Path classes) throws IOException, ReflectiveOperationException {
        try (URLClassLoader loader = new URLClassLoader(new URL[] {classes.toUri().toURL()})) {
            return (long[]) loader.loadClass("Readme").getMethod("answers").invoke(null);
        }
    }

    private void compare(long[] answers) {
        Due.is("README.md, how many answers", answers.length, due.size());
        for (int i = 0; i < due.size(); i++) {
            Due.is("README.md, " + calls.get(i), answers[i], due.get(i));
        }
    }
}
