import java.nio.file.Files;
import java.nio.file.Path;
import java.util.ArrayList;
import java.util.Arrays;
import java.util.List;
import java.util.Set;
import java.util.TreeSet;
import java.util.regex.Matcher;
import java.util.regex.Pattern;

/** The rules of LANGUAGE.md that can be seen in the text of the class. */
public final class SourceTest {
    private static final Set<String> FORBIDDEN = new TreeSet<>(Arrays.asList(
            "throw", "throws", "try", "catch", "finally", "synchronized", "assert", "protected", "native", "volatile",
            "package", "random", "Random", "Thread", "Object", "Exception", "hashCode", "toString", "var"));
    private static final int METHOD_MOST = 60;
    private static final int PARAMETERS_MOST = 7;

    public static void main(String[] args) throws Exception {
        Due due = new Due("SourceTest");
        String source = Files.readString(Path.of(args[0]));
        due.holds("signs 1 to 127 alone", source.chars().allMatch(c -> c > 0 && c < 128));
        String code = withoutComments(source);
        words(due, code);
        due.holds("no lambda, no method reference", !code.contains("->") && !code.contains("::"));
        due.holds("no text joined by +", !Pattern.compile("\"\\s*\\+|\\+\\s*\"").matcher(code).find());
        due.holds("no static block", !Pattern.compile("static\\s*\\{").matcher(code).find());
        due.holds("one file, its imports", imports(code).equals(List.of("java.util.Arrays")));
        staticFields(due, code);
        methods(due, code);
        due.end();
    }

    private static String withoutComments(String source) {
        return source.replaceAll("(?s)/\\*.*?\\*/", "").replaceAll("//[^\n]*", "");
    }

    private static void words(Due due, String code) {
        Matcher m = Pattern.compile("[A-Za-z_][A-Za-z_0-9]*").matcher(code);
        Set<String> found = new TreeSet<>();
        while (m.find()) {
            if (FORBIDDEN.contains(m.group())) {
                found.add(m.group());
            }
        }
        due.holds("no forbidden words, but found " + found, found.isEmpty());
    }

    private static List<String> imports(String code) {
        List<String> all = new ArrayList<>();
        Matcher m = Pattern.compile("import\\s+([^;]+);").matcher(code);
        while (m.find()) {
            all.add(m.group(1));
        }
        return all;
    }

    private static void staticFields(Due due, String code) {
        Matcher m = Pattern.compile("(?m)^\\s*((?:public |private |final |static )*static (?:final )?)(\\S+) \\w+ =").matcher(code);
        int found = 0;
        while (m.find()) {
            found++;
            due.holds("static field '" + m.group() + "' is final", m.group(1).contains("final"));
            due.holds("static field '" + m.group() + "' is a constant",
                    m.group(2).matches("(int|long|boolean|char|String|int\\[\\]|long\\[\\]|char\\[\\]|byte\\[\\])"));
        }
        due.holds("static fields were seen", found > 0);
    }

    /** A method's head ends with "{" and its body with a brace that stands as far in as the head. */
    private static void methods(Due due, String code) {
        String[] rows = code.split("\n", -1);
        int found = 0;
        for (int i = 0; i < rows.length; i++) {
            Matcher m = Pattern.compile("^( {4,8})(?! )[\\w\\[\\]. ]*?(\\w+)\\(([^()]*)\\) \\{$").matcher(rows[i]);
            if (m.matches()) {
                int end = i;
                while (end + 1 < rows.length && !rows[end].equals(m.group(1) + "}")) {
                    end++;
                }
                found++;
                due.holds(m.group(2) + " has " + (end - i + 1) + " rows", end - i + 1 <= METHOD_MOST);
                due.holds(m.group(2) + "'s parameters", m.group(3).split(",").length <= PARAMETERS_MOST);
            }
        }
        due.holds("methods were seen: " + found, found > 42);
    }
}
