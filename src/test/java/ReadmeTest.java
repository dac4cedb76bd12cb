import java.io.ByteArrayOutputStream;
import java.io.IOException;
import java.io.PrintStream;
import java.net.URL;
import java.net.URLClassLoader;
import java.nio.charset.StandardCharsets;
import java.nio.file.DirectoryStream;
import java.nio.file.Files;
import java.nio.file.Path;
import java.util.Arrays;
import java.util.regex.Matcher;
import java.util.regex.Pattern;
import javax.tools.JavaCompiler;
import javax.tools.ToolProvider;

/** README.md is right as it stands: its example, its tables of reasons and orders, and its list of tests. */
public final class ReadmeTest {
    private static final Path DOCUMENT = Path.of("..", "shared", "DOC.md");
    private static final Path TESTS = Path.of("src", "test", "java");
    private static final Pattern REASON = Pattern.compile("\\| (\\d+) \\| (.*) \\| (.*) \\|");
    private static final Pattern ORDER = Pattern.compile("\\| `(\\S+)` \\| .* \\| `(\\w+)\\((.*)\\)` \\|");
    private static final int ALL_REASONS = 10;
    private static final int ALL_ORDERS = 7;

    public static void main(String[] args) throws Exception {
        String readme = Files.readString(Path.of("README.md"));
        Checks.due("what the example prints", blockOf(readme, "text"), printedBy(blockOf(readme, "java")));
        reasonsAreTheDocumentsOnes(readme);
        ordersAreLikeTheirCalls(readme);
        everyTestIsNamed(readme);
        Checks.end();
    }

    private static String blockOf(String readme, String kind) {
        Matcher matcher = Pattern.compile("(?s)\n```" + kind + "\n(.*?)```\n").matcher(readme);
        return matcher.find() ? matcher.group(1) : "no block of " + kind;
    }

    private static String printedBy(String program) throws Exception {
        Path folder = Files.createTempDirectory("readme");
        Path source = folder.resolve("Example.java");
        Path compiled = folder.resolve("Example.class");
        try {
            Files.writeString(source, program);
            JavaCompiler compiler = ToolProvider.getSystemJavaCompiler();
            int code = compiler.run(null, null, null, "-encoding", "UTF-8", "-cp",
                    System.getProperty("java.class.path"), "-d", folder.toString(), source.toString());
            return code == 0 ? printedByMainIn(folder) : "it does not compile";
        } finally {
            Files.deleteIfExists(source);
            Files.deleteIfExists(compiled);
            Files.delete(folder);
        }
    }

    private static String printedByMainIn(Path folder) throws Exception {
        PrintStream before = System.out;
        ByteArrayOutputStream printed = new ByteArrayOutputStream();
        try (URLClassLoader loader = new URLClassLoader(new URL[] {folder.toUri().toURL()})) {
            System.setOut(new PrintStream(printed, true, StandardCharsets.UTF_8));
            loader.loadClass("Example").getMethod("main", String[].class).invoke(null, (Object) new String[0]);
        } finally {
            System.setOut(before);
        }
        return printed.toString(StandardCharsets.UTF_8).replace(System.lineSeparator(), "\n");
    }

    private static void reasonsAreTheDocumentsOnes(String readme) throws IOException {
        String document = Files.readString(DOCUMENT).replaceAll("\\s+", " ");
        int rows = 0;
        Matcher matcher = REASON.matcher(readme);
        while (matcher.find()) {
            rows++;
            String row = matcher.group(1) + ", " + matcher.group(2) + ": " + matcher.group(3);
            Checks.due("the reason's number", String.valueOf(rows), matcher.group(1));
            boolean isThere = document.contains(" " + row + ";") || document.contains(" " + row + ".");
            Checks.due("whether the document says: " + row, true, isThere);
        }
        Checks.due("the reasons", ALL_REASONS, rows);
    }

    private static void ordersAreLikeTheirCalls(String readme) {
        int rows = 0;
        Matcher matcher = ORDER.matcher(readme);
        while (matcher.find()) {
            rows++;
            FlagHues read = prepared();
            FlagHues called = prepared();
            Checks.due("read() of " + matcher.group(1), 1, Checks.read(read, matcher.group(1)));
            call(called, matcher.group(2), matcher.group(3));
            Checks.due("the map after " + matcher.group(1), Checks.pictureOf(called), Checks.pictureOf(read));
        }
        Checks.due("the orders", ALL_ORDERS, rows);
    }

    /** Two countries that are not painted, the second with one free hue: each order of the table does something. */
    private static FlagHues prepared() {
        FlagHues x = Checks.withSizes(2, 9, 4, 1);
        x.paint(2, 2);
        x.paint(3, 0);
        return x;
    }

    private static void call(FlagHues x, String name, String numbers) {
        Object[] values = Arrays.stream(numbers.split(", ")).filter(n -> !n.isEmpty()).map(Integer::valueOf).toArray();
        Class<?>[] types = new Class<?>[values.length];
        Arrays.fill(types, int.class);
        String outcome = Checks.outcomeOf(() -> {
            try {
                return FlagHues.class.getMethod(name, types).invoke(x, values);
            } catch (ReflectiveOperationException e) {
                throw new IllegalStateException(e);
            }
        });
        Checks.due("whether " + name + "(" + numbers + ") throws", false, outcome.startsWith("throws"));
    }

    private static void everyTestIsNamed(String readme) throws IOException {
        try (DirectoryStream<Path> files = Files.newDirectoryStream(TESTS, "*Test.java")) {
            for (Path file : files) {
                String name = file.getFileName().toString().replace(".java", "");
                boolean isNamed = Pattern.compile("\\| " + name + " \\|").matcher(readme).find();
                Checks.due("whether the page names " + name, true, isNamed);
            }
        }
    }
}
