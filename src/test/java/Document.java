import java.io.IOException;
import java.io.UncheckedIOException;
import java.nio.file.Files;
import java.nio.file.Path;

/** ../shared/DOC.md as one line of words, so that tests can quote it. */
final class Document {
    private static final String TEXT = read();
    private static final String TERMS = part("## Terms", "## Promise 1:");

    private Document() { }

    private static String read() {
        try {
            return words(Files.readString(Path.of("..", "shared", "DOC.md")));
        } catch (IOException e) {
            throw new UncheckedIOException(e);
        }
    }

    private static String words(String s) {
        return s.replaceAll("\\s+", " ");
    }

    private static String part(String from, String to) {
        int begin = TEXT.indexOf(from);
        int end = TEXT.indexOf(to);
        return begin < 0 ? "" : TEXT.substring(begin, end < 0 ? TEXT.length() : end);
    }

    /** Whether a promise, or the terms that all promises are made in, has these words. */
    static boolean says(int promise, String quoted) {
        String section = part("## Promise " + promise + ": ", "## Promise " + (promise + 1) + ": ");
        return !quoted.isBlank() && (section.contains(words(quoted)) || TERMS.contains(words(quoted)));
    }
}
