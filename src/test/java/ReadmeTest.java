import java.io.IOException;
import java.net.URL;
import java.net.URLClassLoader;
import java.nio.file.Files;
import java.nio.file.Path;
import java.util.ArrayList;
import java.util.Comparator;
import java.util.List;
import java.util.regex.Matcher;
import java.util.regex.Pattern;
import java.util.stream.Stream;
import javax.tools.ToolProvider;

/** The examples of README.md, compiled and run: each answers what the remark beside it says. */
final class ReadmeTest {
    private static final Pattern BLOCK = Pattern.compile("```java\n(.*?)```", Pattern.DOTALL);
    private static final Pattern ASKED = Pattern.compile("(x\\..*\\));\\s*// (?:throws )?(-?\\d+|\\w+Exception)(?::.*)?");
    private static final Pattern MADE = Pattern.compile("BowingRow x = .*;");

    private final StringBuilder members = new StringBuilder();
    private final StringBuilder steps = new StringBuilder();
    private final List<String> calls = new ArrayList<>();
    private final List<String> due = new ArrayList<>();

    public static void main(String[] args) throws Exception {
        ReadmeTest test = new ReadmeTest();
        test.read(Files.readString(Path.of("README.md")));
        Path out = Files.createTempDirectory("readme");
        try {
            test.compare(test.answers(out));
        } finally {
            remove(out);
        }
        Check.same("many examples were seen", 1, test.calls.size() > 20 ? 1 : 0);
        Check.end();
    }

    private void read(String page) {
        Matcher block = BLOCK.matcher(page);
        while (block.find()) {
            if (block.group(1).contains("static ")) {
                members.append(block.group(1));
            } else {
                block.group(1).lines().forEach(this::readStep);
            }
        }
    }

    private void readStep(String line) {
        Matcher example = ASKED.matcher(line);
        if (example.matches()) {
            calls.add(example.group(1));
            due.add(example.group(2));
            steps.append("try { answers.add(\"\" + ").append(example.group(1)).append("); }")
                .append(" catch (RuntimeException e) { answers.add(e.getClass().getSimpleName()); }\n");
        } else {
            Check.same("an example with its answer, or a new object: " + line, 1, MADE.matcher(line).matches() ? 1 : 0);
            steps.append(line).append('\n');
        }
    }

    private List<?> answers(Path out) throws Exception {
        Path source = out.resolve("ReadmeExamples.java");
        Files.writeString(source, "public final class ReadmeExamples {\n" + members
            + "public static java.util.List<String> answers() {\n"
            + "java.util.List<String> answers = new java.util.ArrayList<>();\n" + steps + "return answers;\n}\n}\n");
        int wrong = ToolProvider.getSystemJavaCompiler().run(null, null, null, "-cp",
            System.getProperty("java.class.path"), "-d", out.toString(), source.toString());
        Check.same("the examples compile", 0, wrong);
        if (wrong != 0) {
            return List.of();
        }
        try (URLClassLoader loader = new URLClassLoader(new URL[] {out.toUri().toURL()})) {
            return (List<?>) loader.loadClass("ReadmeExamples").getMethod("answers").invoke(null);
        }
    }

    private void compare(List<?> got) {
        Check.same("examples that answer", calls.size(), got.size());
        for (int i = 0; i < Math.min(calls.size(), got.size()); i++) {
            Check.same("README.md: " + calls.get(i), due.get(i), (String) got.get(i));
        }
    }

    private static void remove(Path out) throws IOException {
        try (Stream<Path> all = Files.walk(out)) {
            for (Path one : all.sorted(Comparator.reverseOrder()).toList()) {
                Files.delete(one);
            }
        }
    }
}
