import java.io.IOException;
import java.io.UncheckedIOException;
import java.nio.file.Files;
import java.nio.file.Path;
import java.util.Map;
import java.util.Set;
import java.util.TreeMap;
import java.util.TreeSet;
import java.util.regex.Matcher;
import java.util.regex.Pattern;

/** The text of the program, and what can be seen from it. Comments are left out. */
final class ProgramText {
    static final Path FILE = Path.of("src/main/java/GraphEngines.java");

    private static final Pattern METHOD = Pattern.compile(
            "(?ms)^    (?:public|private) (?:static )?(?:\\w+(?:\\[\\])? )?(\\w+)\\(([^)]*)\\) \\{\n(.*?)^    \\}$");
    private static final Pattern CALL = Pattern.compile("\\b(?!(?:if|for|while|switch)\\b)(\\w+)\\(");

    private ProgramText() {
    }

    static String read() {
        try {
            String text = Files.readString(FILE);
            return text.replaceAll("(?s)/\\*.*?\\*/", "").replaceAll(" *//[^\n]*", "");
        } catch (IOException e) {
            throw new UncheckedIOException(e);
        }
    }

    /** The lines between the head and the end of each method, and of the constructor, by name. */
    static Map<String, String> bodies() {
        Map<String, String> found = new TreeMap<>();
        Matcher method = METHOD.matcher(read());
        while (method.find()) {
            found.put(method.group(1), method.group(3));
        }
        return found;
    }

    /** The names of all that is called in a piece of the text. */
    static Set<String> calls(String piece) {
        Set<String> found = new TreeSet<>();
        Matcher call = CALL.matcher(piece);
        while (call.find()) {
            found.add(call.group(1));
        }
        return found;
    }

    /** What stands between the brackets of each call in a piece of the text. */
    static Map<Integer, String> arguments(String piece) {
        Map<Integer, String> found = new TreeMap<>();
        Matcher call = CALL.matcher(piece);
        while (call.find()) {
            int end = call.end();
            for (int open = 1; open > 0; end++) {
                open += piece.charAt(end) == '(' ? 1 : piece.charAt(end) == ')' ? -1 : 0;
            }
            found.put(call.start(), piece.substring(call.end(), end - 1));
        }
        return found;
    }
}
