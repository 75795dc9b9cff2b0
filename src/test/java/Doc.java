import java.io.IOException;
import java.nio.file.Files;
import java.nio.file.Path;

/** The document's own words: a test names those that it holds, and fails if the document says something else. */
final class Doc {
    private static final Path PLACE = Path.of("../shared/DOC.md");
    private static final String TEXT = read();

    private Doc() {
    }

    /** All of it, with single blanks between its words; empty, if it is not here. */
    private static String read() {
        try {
            return Files.isReadable(PLACE) ? oneLine(Files.readString(PLACE)) : "";
        } catch (IOException e) {
            return "";
        }
    }

    static String oneLine(String text) {
        return text.replaceAll("\\s+", " ");
    }

    static Path place() {
        return PLACE;
    }

    static void says(String... words) {
        for (String some : words) {
            // the tests hold without the document, too
            Check.same("the document says: " + some, 1, TEXT.isEmpty() || TEXT.contains(some) ? 1 : 0);
        }
    }
}
