import java.io.ByteArrayOutputStream;
import java.io.IOException;
import java.io.PrintStream;
import java.lang.reflect.Method;
import java.net.URL;
import java.net.URLClassLoader;
import java.nio.charset.StandardCharsets;
import java.nio.file.Files;
import java.nio.file.Path;
import java.util.ArrayList;
import java.util.Arrays;
import java.util.Comparator;
import java.util.List;
import java.util.Set;
import java.util.TreeSet;
import java.util.regex.Matcher;
import java.util.regex.Pattern;
import java.util.stream.Collectors;
import java.util.stream.Stream;
import javax.tools.ToolProvider;

/** What README.md shows is so: its calls with their answers, its program, and its lists. Run from the project's root. */
public final class ReadmeTest {
    private static final Path PLACE = Path.of("README.md");
    private static final Path TESTS = Path.of("src/test/java");
    private static final String NEW_OBJECT = "QuandleColorings q = new QuandleColorings();";
    private static final Pattern CALL = Pattern.compile("q\\.(\\w+\\([-\\d, ]*\\)); +// (-?\\d+)(?:, .*)?");
    private static final Pattern NAMED_ERROR = Pattern.compile("// (-?\\d+), (INVALID_ARGUMENT|INVALID_STATE|LIMIT_REACHED|NOT_FOUND)\\b");
    private static final List<String> ERRORS = List.of("INVALID_ARGUMENT", "INVALID_STATE", "LIMIT_REACHED", "NOT_FOUND");

    private static final String TEXT = read();

    public static void main(String[] args) throws Exception {
        calls();
        program();
        methodTable();
        testTable();
        helpers();
        Check.end("ReadmeTest");
    }

    private static String read() {
        try {
            return Files.readString(PLACE);
        } catch (IOException e) {
            throw new IllegalStateException("there is no " + PLACE, e);
        }
    }

    /** The texts between "```kind" and "```". */
    private static List<String> blocks(String kind) {
        Matcher blocks = Pattern.compile("(?ms)^```" + kind + "\n(.*?)^```$").matcher(TEXT);
        return blocks.results().map(block -> block.group(1)).collect(Collectors.toList());
    }

    /** Each of these blocks makes a new object and then has nothing but calls with an answer. */
    private static void calls() {
        int runs = 0;
        for (String block : blocks("java")) {
            if (block.startsWith(NEW_OBJECT)) {
                runs++;
                run(block.lines().skip(1).collect(Collectors.toList()));
            }
        }
        Check.holds("runs of calls are shown: " + runs, runs >= 4);
    }

    private static void run(List<String> lines) {
        Bench bench = new Bench();
        for (String line : lines) {
            Matcher call = CALL.matcher(line);
            Check.holds("a call and its answer: " + line, call.matches());
            if (call.matches()) {
                bench.due(call.group(1), Integer.parseInt(call.group(2)));
            }
            Matcher error = NAMED_ERROR.matcher(line);
            if (error.find()) {
                Check.due(line + " is the error's number", Integer.parseInt(error.group(1)), -1 - ERRORS.indexOf(error.group(2)));
            }
        }
        Check.holds("the run has calls", !lines.isEmpty());
    }

    private static void program() throws Exception {
        List<String> programs = blocks("java");
        programs.removeIf(block -> block.startsWith(NEW_OBJECT));
        Check.due("programs", programs.size(), 1);
        Path place = Files.createTempDirectory("readme");
        try {
            Files.writeString(place.resolve("Trefoil.java"), programs.get(0));
            String output = compileAndRun(place);
            Check.holds("the program prints what is shown: " + output, List.of(output).equals(blocks("text")));
        } finally {
            remove(place);
        }
    }

    private static String compileAndRun(Path place) throws Exception {
        String[] options = {"-d", place.toString(), "src/main/java/QuandleColorings.java", place.resolve("Trefoil.java").toString()};
        Check.due("javac", ToolProvider.getSystemJavaCompiler().run(null, null, null, options), 0);
        PrintStream screen = System.out;
        ByteArrayOutputStream output = new ByteArrayOutputStream();
        try (URLClassLoader loader = new URLClassLoader(new URL[] {place.toUri().toURL()}, null)) {
            Method main = loader.loadClass("Trefoil").getMethod("main", String[].class);
            System.setOut(new PrintStream(output, true, StandardCharsets.UTF_8));
            main.invoke(null, (Object) new String[0]);
        } finally {
            System.setOut(screen);
        }
        return output.toString(StandardCharsets.UTF_8).replace(System.lineSeparator(), "\n");
    }

    private static void remove(Path place) throws IOException {
        try (Stream<Path> files = Files.walk(place)) {
            for (Path file : files.sorted(Comparator.reverseOrder()).collect(Collectors.toList())) {
                Files.delete(file);
            }
        }
    }

    private static void methodTable() {
        Set<String> methods = new TreeSet<>();
        Arrays.stream(QuandleColorings.class.getMethods()).filter(method -> method.getDeclaringClass() == QuandleColorings.class)
            .forEach(method -> methods.add(method.getName()));
        List<String> shown = namesInTable("| methods |");
        Check.holds("each method is listed: " + shown, methods.equals(new TreeSet<>(shown)));
        Check.due("methods are listed once", shown.size(), methods.size());
    }

    private static void testTable() throws IOException {
        Set<String> tests = new TreeSet<>();
        for (String file : testFiles()) {
            if (file.endsWith("Test")) {
                tests.add(file);
            }
        }
        List<String> shown = new ArrayList<>(namesInTable("| test |"));
        Check.holds("each test is listed: " + shown, tests.equals(new TreeSet<>(shown)));
    }

    /** The names in the first column of a table, which begins with the given heading. */
    private static List<String> namesInTable(String heading) {
        List<String> names = new ArrayList<>();
        for (String line : TEXT.substring(TEXT.indexOf(heading)).lines().takeWhile(line -> line.startsWith("|")).skip(2).collect(Collectors.toList())) {
            Matcher name = Pattern.compile("`(\\w+)`").matcher(line.substring(0, line.indexOf('|', 1)));
            while (name.find()) {
                names.add(name.group(1));
            }
        }
        return names;
    }

    private static List<String> testFiles() throws IOException {
        try (Stream<Path> files = Files.list(TESTS)) {
            return files.map(file -> file.getFileName().toString().replace(".java", "")).collect(Collectors.toList());
        }
    }

    /** Each file beside the tests is told of. */
    private static void helpers() throws IOException {
        for (String file : testFiles()) {
            Check.holds("README.md names " + file, TEXT.contains("`" + file + "`") || TEXT.contains("`" + file + "."));
        }
    }
}
