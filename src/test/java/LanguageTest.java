import java.io.IOException;
import java.nio.file.Files;
import java.nio.file.Path;
import java.util.List;
import java.util.regex.Matcher;
import java.util.regex.Pattern;

/** The rules of LANGUAGE.md that a look at the text of the class can hold. */
final class LanguageTest {
    private static final Path SOURCE = Path.of("src/main/java/BowingRow.java");
    private static final List<String> RULED_OUT = List.of("->", "::", "\\bcatch\\b", "\\bfinally\\b", "\\btry\\b",
        "\\bsynchronized\\b", "\\bassert\\b", "\\bpackage\\b", "\\bdouble\\b", "\\bfloat\\b", "Exact\\(", "ordinal\\(",
        "\\bSystem\\.(?!arraycopy)", "\\bRandom\\b", "\\bThread\\b", "static \\{", "\\bnative\\b", "getMessage",
        "hashCode", "toString", "\" \\+", "\\+ \"", "\\bprotected\\b", "equals\\(");
    private static final Pattern METHOD = Pattern.compile("^ {4,8}(?!return|throw|else|new)[\\w\\[\\]<> ]+\\((.*)\\).*\\{$");

    public static void main(String[] args) throws IOException {
        List<String> lines = Files.readAllLines(SOURCE);
        String code = withoutComments(String.join("\n", lines));
        for (String pattern : RULED_OUT) {
            Check.same("uses of " + pattern, 0, Pattern.compile(pattern).matcher(code).results().count());
        }
        Check.same("imports", "[import java.util.Arrays;, import java.util.NoSuchElementException;]",
            code.lines().filter(line -> line.startsWith("import")).toList().toString());
        long classes = Pattern.compile("\\b(class|enum|record|interface) [A-Z]").matcher(code).results().count();
        Check.same("more than twelve classes", 0, classes > 12 ? 1 : 0);
        Check.same("signs beyond 127", 0, code.chars().filter(sign -> sign > 127).count());
        methods(lines);
        Check.end();
    }

    private static String withoutComments(String text) {
        return text.replaceAll("(?s)/\\*.*?\\*/", "").replaceAll("//[^\n]*", "");
    }

    private static void methods(List<String> lines) {
        int found = 0;
        for (int at = 0; at < lines.size(); at++) {
            Matcher head = METHOD.matcher(lines.get(at));
            if (!head.matches()) {
                continue;
            }
            found++;
            String close = lines.get(at).replaceAll("\\S.*", "") + "}";
            int end = at;
            while (!lines.get(end).equals(close)) {
                end++;
            }
            int parameters = head.group(1).isEmpty() ? 0 : head.group(1).split(",").length;
            Check.same("more than 60 lines: " + lines.get(at), 0, end - at > 60 ? 1 : 0);
            Check.same("more than 7 parameters: " + lines.get(at), 0, parameters > 7 ? 1 : 0);
        }
        Check.same("the methods were seen", 1, found > 60 ? 1 : 0);
    }
}
