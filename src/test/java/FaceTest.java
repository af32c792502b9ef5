import java.io.IOException;
import java.lang.reflect.Field;
import java.lang.reflect.Method;
import java.lang.reflect.Modifier;
import java.nio.file.Files;
import java.nio.file.Path;
import java.util.Arrays;
import java.util.HashSet;
import java.util.Set;
import java.util.TreeSet;
import java.util.regex.Matcher;
import java.util.regex.Pattern;

/** The class has the document's face and no other, and its text keeps to LANGUAGE.md. */
public final class FaceTest {
    private static final String SOURCE = "src/main/java/GraphEngines.java";

    private static final String[] FACE = {
        "boolean edge(int, int, int)", "int colours(int)", "int chromatic()",
        "int coefficient(int)", "int tours()", "int tour()", "int trail(int, int)",
        "int longest(int)", "int link(int)", "int cut()", "int matchings(int)",
        "int dominators(int)", "int width()", "int spread()", "int layout()", "int loose()"};

    private static final String FORBIDDEN_WORDS =
            "import|package|throw|throws|try|catch|finally|synchronized|assert|instanceof|null"
            + "|float|double|String|Math|Integer|System|Arrays|Object|interface|enum|record|this"
            + "|native|protected|volatile";

    private static final Check check = new Check();

    public static void main(String[] args) throws IOException {
        classShape();
        methods();
        fields();
        text(Files.readString(Path.of(SOURCE)));
        check.end();
    }

    private static void classShape() {
        Class<?> c = GraphEngines.class;
        check.due("public final class", c.getModifiers(), Modifier.PUBLIC | Modifier.FINAL);
        check.due("nested classes", c.getDeclaredClasses().length, 0);
        check.due("interfaces", c.getInterfaces().length, 0);
        check.due("from Object", c.getSuperclass() == Object.class, true);
        check.due("constructors", c.getDeclaredConstructors().length, 1);
        check.due("its modifiers", c.getDeclaredConstructors()[0].getModifiers(), Modifier.PUBLIC);
        check.due("its parameters", c.getDeclaredConstructors()[0].getParameterCount(), 0);
    }

    private static void methods() {
        Set<String> found = new TreeSet<>();
        Set<String> publicNames = new HashSet<>();
        Set<String> privateNames = new HashSet<>();
        for (Method m : GraphEngines.class.getDeclaredMethods()) {
            check.due(m + " has few parameters", m.getParameterCount() <= 7, true);
            if (Modifier.isPublic(m.getModifiers())) {
                check.due(m + " is only public", m.getModifiers(), Modifier.PUBLIC);
                found.add(signature(m));
                publicNames.add(m.getName());
            } else {
                check.due(m + " is private", Modifier.isPrivate(m.getModifiers()), true);
                check.due(m + " answers no array", m.getReturnType().isArray(), false);
                privateNames.add(m.getName());
            }
        }
        check.due("the face " + found, found.equals(new TreeSet<>(Arrays.asList(FACE))), true);
        privateNames.retainAll(publicNames);
        check.due("private names that are public too " + privateNames, privateNames.size(), 0);
    }

    private static String signature(Method m) {
        StringBuilder types = new StringBuilder();
        for (Class<?> type : m.getParameterTypes()) {
            types.append(types.length() == 0 ? "" : ", ").append(type.getName());
        }
        return m.getReturnType().getName() + " " + m.getName() + "(" + types + ")";
    }

    private static void fields() {
        Set<String> publicNames = new TreeSet<>();
        int kept = 0;
        for (Field f : GraphEngines.class.getDeclaredFields()) {
            int modifiers = f.getModifiers();
            Class<?> type = f.getType();
            if (Modifier.isStatic(modifiers)) {
                check.due(f + " is final", Modifier.isFinal(modifiers), true);
                check.due(f + " is a number", type == int.class || type == long.class, true);
            } else {
                kept++;
                Class<?> part = type.isArray() ? type.getComponentType() : type;
                check.due(f + " is simple", part.isPrimitive(), true);
            }
            if (Modifier.isPublic(modifiers)) {
                publicNames.add(f.getName());
            } else {
                check.due(f + " is private", Modifier.isPrivate(modifiers), true);
            }
        }
        check.due("constants " + publicNames, publicNames.equals(Set.of("BAD", "NONE")), true);
        check.due("at most forty fields", kept <= 40, true);
    }

    private static void text(String source) {
        String code = source.replaceAll("(?s)/\\*.*?\\*/", "").replaceAll("//[^\n]*", "");
        Matcher word = Pattern.compile("\\b(" + FORBIDDEN_WORDS + ")\\b|->|::|[\"'@]").matcher(code);
        while (word.find()) {
            check.due("the text has " + word.group(), 1, 0);
        }
        Matcher made = Pattern.compile("(?m)^.*\\bnew\\b.*$").matcher(code);
        while (made.find()) {
            String line = made.group();
            boolean field = line.matches("    private final int\\[\\] \\w+ = new int\\[[A-Z_]+\\];");
            check.due("an array made in a field's initialiser:" + line, field, true);
        }
    }
}
