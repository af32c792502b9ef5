import java.io.IOException;
import java.io.UncheckedIOException;
import java.lang.reflect.Method;
import java.nio.file.Files;
import java.nio.file.Path;
import java.util.ArrayList;
import java.util.LinkedHashMap;
import java.util.List;
import java.util.Map;
import java.util.Set;
import java.util.TreeSet;
import java.util.regex.Matcher;
import java.util.regex.Pattern;

/** What README.md shows: the example with its answers, its commands, the ranges, and the files. */
public final class ReadmeTest {
    private static final Check check = new Check();
    private static String readme;

    public static void main(String[] args) throws IOException {
        readme = Files.readString(Path.of("README.md"));
        check.run("readme: the example prints what its comments say", ReadmeTest::example);
        check.run("readme: the example has every method", ReadmeTest::everyMethod);
        check.run("readme: the table of ranges", ReadmeTest::ranges);
        check.run("readme: the files are there", ReadmeTest::files);
        check.run("readme: the tests are named", ReadmeTest::testsNamed);
        check.run("readme: the script that runs the tests", ReadmeTest::script);
        check.end();
    }

    /** The first block of a kind. */
    private static String block(String kind) {
        Matcher found = Pattern.compile("(?s)```" + kind + "\n(.*?)```").matcher(readme);
        return found.find() ? found.group(1) : "";
    }

    /** What each printing line of the example says that it prints. */
    private static List<String> answersShown() {
        List<String> answers = new ArrayList<>();
        Matcher line = Pattern.compile("println\\(.*\\); +// ([-\\w]+)").matcher(block("java"));
        while (line.find()) {
            answers.add(line.group(1));
        }
        return answers;
    }

    private static void example() {
        List<String> printed = runExample();
        List<String> shown = answersShown();
        long printing = Pattern.compile("println").matcher(block("java")).results().count();
        check.due("lines with an answer", shown.size(), printing);
        check.due("lines printed", printed.size(), shown.size());
        for (int i = 0; i < Math.min(shown.size(), printed.size()); i++) {
            String call = "line " + (i + 1) + ", " + printed.get(i) + " for " + shown.get(i);
            check.due(call, printed.get(i).equals(shown.get(i)), true);
        }
    }

    /** In a folder of its own that has just the two files, by the commands that are shown. */
    private static List<String> runExample() {
        List<String> printed = new ArrayList<>();
        try {
            Path folder = Files.createTempDirectory("readme");
            Path program = folder.resolve(ProgramText.FILE);
            Path output = folder.resolve("output");
            Files.createDirectories(program.getParent());
            Files.copy(ProgramText.FILE, program);
            Files.writeString(folder.resolve("Example.java"), block("java"));
            for (String command : block("sh").split("\n")) {
                ProcessBuilder process = new ProcessBuilder(command.split(" "));
                process.directory(folder.toFile());
                process.redirectError(ProcessBuilder.Redirect.INHERIT);
                process.redirectOutput(output.toFile());
                check.due(command, process.start().waitFor(), 0);
                printed.addAll(Files.readAllLines(output));
            }
            delete(folder);
        } catch (IOException e) {
            throw new UncheckedIOException(e);
        } catch (InterruptedException e) {
            throw new IllegalStateException(e);
        }
        return printed;
    }

    private static void delete(Path folder) throws IOException {
        try (var paths = Files.walk(folder)) {
            // Files come before the folders that they are in.
            for (Path path : paths.sorted((p, q) -> q.compareTo(p)).toList()) {
                Files.delete(path);
            }
        }
    }

    private static Set<String> publicMethods() {
        Set<String> names = new TreeSet<>();
        for (Method m : GraphEngines.class.getMethods()) {
            if (m.getDeclaringClass() == GraphEngines.class) {
                names.add(m.getName());
            }
        }
        return names;
    }

    private static void everyMethod() {
        for (String name : publicMethods()) {
            check.due(name, block("java").contains("x." + name + "("), true);
        }
    }

    private static void ranges() {
        Set<String> rows = new TreeSet<>();
        Matcher row = Pattern.compile("(?m)^\\| `(\\w+)\\((.*?)\\)`.*?\\| (.*?) +\\| `(\\w+)` +\\|$")
                .matcher(readme);
        while (row.find()) {
            rows.add(row.group(1));
            outsideDue(row.group(1), row.group(2).split(", "), row.group(3), row.group(4));
        }
        for (Method m : GraphEngines.class.getMethods()) {
            if (m.getDeclaringClass() == GraphEngines.class && m.getParameterCount() > 0) {
                check.due(m.getName() + " has a row", rows.contains(m.getName()), true);
            }
        }
    }

    /** Each argument in turn goes just outside and just inside; the others are in their ranges. */
    private static void outsideDue(String name, String[] names, String range, String other) {
        Map<String, int[]> ends = ends(range);
        for (String varied : names) {
            int[] end = ends.get(varied);
            for (int n : new int[] {end[0] - 1, end[0], end[1], end[1] + 1}) {
                boolean inside = n >= end[0] && n <= end[1];
                Object answer = call(name, names, varied, n);
                // Inside, 0 may be an answer as well as any other number.
                boolean tells = !inside || !other.equals("0");
                String text = name + " with " + varied + " = " + n + " answered " + answer;
                check.due(text, tells && answer.equals(value(other)), !inside);
            }
        }
        if (range.contains("a not b")) {
            check.due(name + " with a = b", call(name, names, "a", 4).equals(value(other)), true);
        }
    }

    /** "a, b 0 to 6; a not b; w 0 to 9": the ends of the range by the argument's name. */
    private static Map<String, int[]> ends(String range) {
        Map<String, int[]> ends = new LinkedHashMap<>();
        Matcher part = Pattern.compile("((?:\\w+, )*\\w+) (\\d+) to (\\d+)").matcher(range);
        while (part.find()) {
            for (String name : part.group(1).split(", ")) {
                int[] both = {Integer.parseInt(part.group(2)), Integer.parseInt(part.group(3))};
                ends.put(name, both);
            }
        }
        return ends;
    }

    private static Object value(String shown) {
        return switch (shown) {
            case "BAD" -> GraphEngines.BAD;
            case "false" -> false;
            default -> Integer.parseInt(shown);
        };
    }

    private static Object call(String name, String[] names, String varied, int n) {
        Class<?>[] types = new Class<?>[names.length];
        Object[] arguments = new Object[names.length];
        for (int i = 0; i < names.length; i++) {
            types[i] = int.class;
            // b is 4, so that a = 4 makes them the same.
            int usual = names[i].equals("b") ? 4 : 2;
            arguments[i] = names[i].equals(varied) ? n : usual;
        }
        try {
            return GraphEngines.class.getMethod(name, types).invoke(Graphs.complete(1), arguments);
        } catch (ReflectiveOperationException e) {
            throw new IllegalStateException(name, e);
        }
    }

    private static void files() {
        Matcher named = Pattern.compile("`((?:src|\\.\\.)/[^`]*)`").matcher(readme);
        while (named.find()) {
            check.due(named.group(1), Files.exists(Path.of(named.group(1))), true);
        }
    }

    /** The promises' tests are named by the first and the last one. */
    private static void testsNamed() {
        for (String file : Path.of("src/test/java").toFile().list()) {
            if (file.endsWith("Test.java") && !file.startsWith("Promise")) {
                check.due(file, readme.contains("`src/test/java/" + file + "`"), true);
            }
        }
    }

    private static void script() {
        check.due("it is shown", readme.contains("```sh\n.ci/run\n```"), true);
        check.due("it can be run", Files.isExecutable(Path.of(".ci/run")), true);
    }
}
