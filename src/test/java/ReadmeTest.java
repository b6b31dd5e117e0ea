import java.io.ByteArrayOutputStream;
import java.io.IOException;
import java.io.PrintStream;
import java.net.URL;
import java.net.URLClassLoader;
import java.nio.file.Files;
import java.nio.file.Path;
import java.util.ArrayList;
import java.util.List;
import java.util.regex.Matcher;
import java.util.regex.Pattern;
import java.util.stream.Stream;
import javax.tools.ToolProvider;

/** README.md names each method of the document with its errors in their order, each test, and an example that runs. */
public final class ReadmeTest {
    private static final Path DOCUMENT = Path.of("../shared/DOC.md");
    private static final Path PAGE = Path.of("README.md");
    private static final Path TESTS = Path.of("src/test/java");
    private static final Pattern ERROR = Pattern.compile("NO_SUCH|BAD_VALUE|BAD_TEXT|TOO_MANY|NOT_POSSIBLE");
    private static final Pattern PROMISE = Pattern.compile("## Promise \\d+: \\w+\\s+`int ([^`]+)`:(.*?)(?=\n## )", Pattern.DOTALL);
    private static final Due DUE = new Due();

    private ReadmeTest() {
    }

    public static void main(String[] args) throws IOException, ReflectiveOperationException {
        String page = Files.readString(PAGE);
        methods(page, Files.readString(DOCUMENT));
        example(page);
        tests(page);
        DUE.end();
    }

    private static String errors(String text) {
        List<String> errors = new ArrayList<>();
        for (Matcher error = ERROR.matcher(text); error.find(); ) {
            errors.add(error.group());
        }
        return errors.toString();
    }

    private static void methods(String page, String document) {
        DUE.part("a line for each method");
        int methods = 0;
        for (Matcher promise = PROMISE.matcher(document); promise.find(); methods++) {
            String method = promise.group(1);
            List<String> rows = page.lines().filter(row -> row.startsWith("| `" + method + "` | ")).toList();
            DUE.due("rows of " + method, rows.size(), 1);
            String[] cells = rows.isEmpty() ? new String[0] : rows.get(0).split(" \\| ");
            DUE.due("cells of " + method, cells.length, 3);
            String told = cells.length == 3 ? cells[2] : "";
            DUE.due("errors of " + method, errors(told), errors(promise.group(2)));
            DUE.due(method + " without errors", told.equals("none |") ? 1 : 0, errors(told).equals("[]") ? 1 : 0);
        }
        DUE.due("methods", methods, 27);
    }

    private static String block(String page, String kind) {
        Matcher block = Pattern.compile("```" + kind + "\n(.*?)```", Pattern.DOTALL).matcher(page);
        return block.find() ? block.group(1) : "";
    }

    private static void example(String page) throws IOException, ReflectiveOperationException {
        DUE.part("the example");
        Path directory = Files.createTempDirectory("example");
        Path source = directory.resolve("Example.java");
        Path compiled = directory.resolve("Example.class");
        try {
            Files.writeString(source, block(page, "java"));
            int answer = ToolProvider.getSystemJavaCompiler().run(null, null, null, "-cp",
                System.getProperty("java.class.path"), "-d", directory.toString(), source.toString());
            DUE.due("javac", answer, 0);
            if (answer == 0) {
                DUE.due("it prints", printed(directory), block(page, "text"));
            }
        } finally {
            Files.deleteIfExists(compiled);
            Files.deleteIfExists(source);
            Files.delete(directory);
        }
    }

    private static String printed(Path directory) throws IOException, ReflectiveOperationException {
        PrintStream screen = System.out;
        ByteArrayOutputStream printed = new ByteArrayOutputStream();
        try (URLClassLoader loader = new URLClassLoader(new URL[] {directory.toUri().toURL()})) {
            System.setOut(new PrintStream(printed, true));
            loader.loadClass("Example").getMethod("main", String[].class).invoke(null, (Object) new String[0]);
        } finally {
            System.setOut(screen);
        }
        return printed.toString();
    }

    private static void tests(String page) throws IOException {
        DUE.part("a line for each test");
        try (Stream<Path> files = Files.list(TESTS)) {
            for (Path file : files.sorted().toList()) {
                String name = file.getFileName().toString().replace(".java", "");
                String mark = name.endsWith("Test") ? "| `" + name + "` |" : "`" + name + "`";
                DUE.due(name, page.contains(mark) ? 1 : 0, 1);
            }
        }
        DUE.due("the script", page.contains("    .ci/run\n") ? 1 : 0, 1);
    }
}
