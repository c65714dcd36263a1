import java.io.IOException;
import java.nio.file.DirectoryStream;
import java.nio.file.Files;
import java.nio.file.Path;
import java.util.Set;
import java.util.TreeSet;
import java.util.regex.Matcher;
import java.util.regex.Pattern;

/** Each promise has tests of its boundaries, in the files whose names end in EdgesTest. */
public final class EdgeListTest {
    private static final int PROMISES = 43;

    public static void main(String[] args) throws IOException {
        Due due = new Due("EdgeListTest");
        Set<Integer> tested = new TreeSet<>();
        try (DirectoryStream<Path> files = Files.newDirectoryStream(Path.of("src", "test", "java"), "*EdgesTest.java")) {
            for (Path file : files) {
                Matcher m = Pattern.compile("(?:edge|noticesRefused)\\((\\d+), \"").matcher(Files.readString(file));
                while (m.find()) {
                    tested.add(Integer.parseInt(m.group(1)));
                }
            }
        }
        for (int promise = 1; promise <= PROMISES; promise++) {
            due.holds("promise " + promise + " is tested at its boundaries", tested.contains(promise));
        }
        due.end();
    }
}
