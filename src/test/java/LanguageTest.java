import java.io.IOException;
import java.nio.file.Files;
import java.nio.file.Path;
import java.util.List;
import java.util.regex.Pattern;

/** The rules of LANGUAGE.md that a look at the text of the class can hold. */
final class LanguageTest {
    private static final Path SOURCE = Path.of("src/main/java/BowingRow.java");
    private static final List<String> RULED_OUT = List.of("->", "::", "\\bcatch\\b", "\\bfinally\\b", "\\btry\\b",
        "\\bsynchronized\\b", "\\bassert\\b", "\\bpackage\\b", "\\bdouble\\b", "\\bfloat\\b", "Exact\\(", "ordinal\\(",
        "\\bSystem\\.(?!arraycopy)", "\\bRandom\\b", "\\bThread\\b", "static \\{", "\\bnative\\b", "getMessage",
        "hashCode", "toString", "\" \\+", "\\+ \"", "\\bprotected\\b", "equals\\(");

    public static void main(String[] args) throws IOException {
        String code = withoutComments(Files.readString(SOURCE));
        for (String pattern : RULED_OUT) {
            Check.same("uses of " + pattern, 0, Pattern.compile(pattern).matcher(code).results().count());
        }
        Check.same("imports", "[import java.util.Arrays;, import java.util.NoSuchElementException;]",
            code.lines().filter(line -> line.startsWith("import")).toList().toString());
        Check.same("signs beyond 127", 0, code.chars().filter(sign -> sign > 127).count());
        Check.end();
    }

    private static String withoutComments(String text) {
        return text.replaceAll("(?s)/\\*.*?\\*/", "").replaceAll("//[^\n]*", "");
    }
}
