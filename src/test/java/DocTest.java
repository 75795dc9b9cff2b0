import java.io.IOException;
import java.nio.file.Files;
import java.nio.file.Path;
import java.util.ArrayList;
import java.util.Arrays;
import java.util.List;
import java.util.regex.Matcher;
import java.util.regex.Pattern;
import java.util.stream.Stream;

/** Every sentence of the document's Terms and promises is named by a test that holds it. */
final class DocTest {
    private static final Path TESTS = Path.of("src/test/java");
    private static final Pattern SAYS = Pattern.compile("Doc\\.says\\((.*?)\\);\n", Pattern.DOTALL);
    private static final Pattern JOINED = Pattern.compile("\"\\s*\\+\\s*\"");
    private static final Pattern TEXT = Pattern.compile("\"((?:[^\"\\\\]|\\\\.)*)\"");

    public static void main(String[] args) throws IOException {
        if (Files.isReadable(Doc.place())) {
            String sentences = sentences(Files.readString(Doc.place()));
            boolean[] named = new boolean[sentences.length()];
            for (String words : namedByTests()) {
                mark(sentences, words, named);
            }
            for (String words : notNamed(sentences, named)) {
                Check.same("tests that name: " + words, 1, 0);
            }
        }
        Check.same("the tests name many sentences", 1, namedByTests().size() > 100 ? 1 : 0);
        Check.end();
    }

    /** Terms and promises, without headings, fences and the heads of methods. */
    private static String sentences(String document) {
        String kept = document.substring(document.indexOf("## Terms"), document.indexOf("## Not promised"));
        kept = kept.replaceAll("(?m)^(## .*|```.*)$", "").replaceAll("==== \\d\\.", "");
        return Doc.oneLine(kept.replaceAll("`(int|boolean) \\w+\\([^`]*`:", ""));
    }

    private static List<String> namedByTests() throws IOException {
        List<String> found = new ArrayList<>();
        try (Stream<Path> files = Files.list(TESTS)) {
            for (Path file : files.filter(path -> path.toString().endsWith("BoundsTest.java")).sorted().toList()) {
                Matcher says = SAYS.matcher(Files.readString(file));
                while (says.find()) {
                    Matcher text = TEXT.matcher(JOINED.matcher(says.group(1)).replaceAll(""));
                    while (text.find()) {
                        found.add(text.group(1).replace("\\\"", "\""));
                    }
                }
            }
        }
        return found;
    }

    private static void mark(String sentences, String words, boolean[] named) {
        // the head of a method may stand ahead of what is named
        String kept = words.replaceAll("`(int|boolean) \\w+\\([^`]*`:", "").trim();
        for (int at = sentences.indexOf(kept); at >= 0; at = sentences.indexOf(kept, at + 1)) {
            Arrays.fill(named, at, at + kept.length(), true);
        }
    }

    private static List<String> notNamed(String sentences, boolean[] named) {
        List<String> found = new ArrayList<>();
        StringBuilder words = new StringBuilder();
        for (int at = 0; at <= named.length; at++) {
            if (at < named.length && !named[at]) {
                words.append(sentences.charAt(at));
            } else {
                if (words.toString().matches(".*[A-Za-z0-9].*")) {
                    found.add(words.toString());
                }
                words.setLength(0);
            }
        }
        return found;
    }
}
