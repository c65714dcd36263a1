import java.io.IOException;
import java.io.StringWriter;
import java.lang.reflect.Method;
import java.lang.reflect.Modifier;
import java.net.URL;
import java.net.URLClassLoader;
import java.nio.file.DirectoryStream;
import java.nio.file.Files;
import java.nio.file.Path;
import java.util.List;
import java.util.Map;
import java.util.Set;
import java.util.TreeMap;
import java.util.TreeSet;
import java.util.function.BiConsumer;
import java.util.function.Consumer;
import java.util.regex.Matcher;
import java.util.regex.Pattern;
import javax.tools.JavaCompiler;
import javax.tools.StandardJavaFileManager;
import javax.tools.ToolProvider;

/**
 * The calls that README.md shows are made as they stand there, one block of Java behind the other, as one program:
 * each call answers what README.md tells behind it.
 */
public final class ReadmeTest {
    private static final Path PAGE = Path.of("README.md");
    private static final Pattern CALL =
            Pattern.compile("^\\s*(x\\.(\\w+)\\(.*\\));\\s*// (-?\\d+|[A-Z]+)(?::.*)?$");
    private static final int CALLS_MOST = 512;

    private final Due due = new Due("ReadmeTest");
    /** By the numbers of README.md's rows: the calls there, and the answers that it tells. */
    private final Map<Integer, String> calls = new TreeMap<>();
    private final Map<Integer, Long> told = new TreeMap<>();
    private final Set<Integer> made = new TreeSet<>();
    private final Set<String> shown = new TreeSet<>();
    private int callsMade;

    public static void main(String[] args) throws Exception {
        ReadmeTest test = new ReadmeTest();
        String program = test.programOf(Files.readAllLines(PAGE));
        test.wholeFace();
        test.run(program);
        test.due.holds("README.md says how its tests are run", Files.readString(PAGE).contains("    .ci/run\n"));
        test.due.holds("what it names can be run", Files.isExecutable(Path.of(".ci", "run")));
        test.due.end();
    }

    private String programOf(List<String> rows) throws Exception {
        StringBuilder program = new StringBuilder("""
                import java.util.function.BiConsumer;
                import java.util.function.Consumer;
                public final class ReadmeCalls implements Consumer<BiConsumer<Integer, Long>> {
                    public void accept(BiConsumer<Integer, Long> made) {
                """);
        boolean java = false;
        for (int k = 0; k < rows.size(); k++) {
            if (rows.get(k).startsWith("```")) {
                java = rows.get(k).equals("```java");
            } else if (java) {
                program.append(rowOf(k + 1, rows.get(k))).append('\n');
            }
        }
        return program.append("    }\n}\n").toString();
    }

    private String rowOf(int number, String row) throws Exception {
        Matcher m = CALL.matcher(row);
        if (!m.matches()) {
            due.holds("row " + number + " makes no call without telling the answer: " + row, !row.contains("x."));
            return row;
        }
        calls.put(number, m.group(1));
        shown.add(m.group(2));
        told.put(number, numberOf(m.group(3)));
        return "made.accept(" + number + ", (long) " + m.group(1) + ");";
    }

    private static long numberOf(String answer) throws Exception {
        boolean named = Character.isUpperCase(answer.charAt(0));
        return named ? CalledStalls.class.getField(answer).getInt(null) : Long.parseLong(answer);
    }

    private void wholeFace() {
        for (Method m : CalledStalls.class.getDeclaredMethods()) {
            if (Modifier.isPublic(m.getModifiers())) {
                due.holds("README.md shows " + m.getName() + "()", shown.contains(m.getName()));
            }
        }
    }

    private void run(String program) throws Exception {
        Path folder = Files.createTempDirectory("readme");
        try {
            Path source = Files.writeString(folder.resolve("ReadmeCalls.java"), program);
            String complaints = compile(source, folder);
            due.holds("the Java of README.md compiles: " + complaints, complaints.isEmpty());
            if (complaints.isEmpty()) {
                make(folder);
            }
        } finally {
            delete(folder);
        }
        for (int number : calls.keySet()) {
            due.holds("row " + number + ", " + calls.get(number) + ", is reached", made.contains(number));
        }
        due.holds(callsMade + " calls are no more than 512 of one object", callsMade <= CALLS_MOST);
    }

    private static String compile(Path source, Path folder) throws IOException {
        JavaCompiler compiler = ToolProvider.getSystemJavaCompiler();
        StringWriter complaints = new StringWriter();
        List<String> options = List.of("-d", folder.toString(), "-cp", System.getProperty("java.class.path"));
        try (StandardJavaFileManager files = compiler.getStandardFileManager(null, null, null)) {
            boolean compiled =
                    compiler.getTask(complaints, files, null, options, null, files.getJavaFileObjects(source)).call();
            return compiled ? "" : "it does not: " + complaints;
        }
    }

    private void make(Path folder) throws Exception {
        try (URLClassLoader loader = new URLClassLoader(new URL[] {folder.toUri().toURL()})) {
            Object program = loader.loadClass("ReadmeCalls").getConstructor().newInstance();
            @SuppressWarnings("unchecked")
            Consumer<BiConsumer<Integer, Long>> shownCalls = (Consumer<BiConsumer<Integer, Long>>) program;
            shownCalls.accept(this::compare);
        }
    }

    private void compare(int number, long answer) {
        callsMade++;
        made.add(number);
        due.is("README.md, row " + number + ": " + calls.get(number), answer, told.get(number));
    }

    private static void delete(Path folder) throws IOException {
        try (DirectoryStream<Path> files = Files.newDirectoryStream(folder)) {
            for (Path file : files) {
                Files.delete(file);
            }
        }
        Files.delete(folder);
    }
}
