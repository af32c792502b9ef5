import java.io.IOException;
import java.lang.reflect.Constructor;
import java.lang.reflect.Field;
import java.lang.reflect.Method;
import java.lang.reflect.Modifier;
import java.nio.file.Files;
import java.nio.file.Path;
import java.util.ArrayList;
import java.util.List;
import java.util.Set;
import java.util.TreeSet;
import java.util.regex.Matcher;
import java.util.regex.Pattern;

/** The public face is the one that the document's code block gives, and no other. */
public final class FaceTest {
    private static final Path DOCUMENT = Path.of("../shared/DOC.md");

    /** The code block as this test knows it; a document with another one makes the test fail. */
    private static final String FACE = """
            public final class GraphEngines {
                public static final int BAD = -1;
                public static final int NONE = -2;
                public GraphEngines();
                public boolean edge(int a, int b, int w);
                public int colours(int k);
                public int chromatic();
                public int coefficient(int i);
                public int tours();
                public int tour();
                public int trail(int a, int b);
                public int longest(int a);
                public int link(int set);
                public int cut();
                public int matchings(int k);
                public int dominators(int k);
                public int width();
                public int spread();
                public int layout();
                public int loose();
            }
            """;

    private static final Check check = new Check();
    private static String document;

    public static void main(String[] args) throws IOException {
        document = Files.readString(DOCUMENT);
        check.run("face: the document's code block", FaceTest::codeBlock);
        check.run("face: the class", FaceTest::theClass);
        check.run("face: constants, constructor and methods", FaceTest::members);
        check.run("face: nothing else is visible", FaceTest::nothingElse);
        check.run("face: the constants are compile-time constants", FaceTest::constants);
        check.run("face: parameter names", FaceTest::parameterNames);
        check.end();
    }

    private static void codeBlock() {
        Matcher block = Pattern.compile("(?s)```java\n(.*?)```").matcher(document);
        check.due("there is a code block", block.find(), true);
        check.due("it is the one that is tested here", block.group(1).equals(FACE), true);
    }

    private static void theClass() {
        Class<?> c = GraphEngines.class;
        check.due("its name", c.getName().equals("GraphEngines"), true);
        check.due("public final", c.getModifiers(), Modifier.PUBLIC | Modifier.FINAL);
        check.due("from Object", c.getSuperclass() == Object.class, true);
        check.due("interfaces", c.getInterfaces().length, 0);
        check.due("type parameters", c.getTypeParameters().length, 0);
    }

    /** The members of the code block, without the names of the parameters. */
    private static Set<String> promised() {
        Set<String> lines = new TreeSet<>();
        for (String line : FACE.split("\n")) {
            if (line.startsWith("    ")) {
                lines.add(line.strip().replaceAll("int \\w+(?=[,)])", "int"));
            }
        }
        return lines;
    }

    private static void members() {
        Set<String> found = new TreeSet<>();
        for (Field f : GraphEngines.class.getFields()) {
            found.add(line(f));
        }
        for (Constructor<?> c : GraphEngines.class.getConstructors()) {
            found.add(line(c.getModifiers(), c.getName(), c.getParameterTypes()));
        }
        for (Method m : GraphEngines.class.getDeclaredMethods()) {
            if (Modifier.isPublic(m.getModifiers())) {
                String name = m.getReturnType().getName() + " " + m.getName();
                found.add(line(m.getModifiers(), name, m.getParameterTypes()));
            }
        }
        Set<String> missing = promised();
        missing.removeAll(found);
        check.due("promised and not there: " + missing, missing.size(), 0);
        found.removeAll(promised());
        check.due("there and not promised: " + found, found.size(), 0);
    }

    private static String line(Field f) {
        try {
            String name = f.getType().getName() + " " + f.getName();
            return Modifier.toString(f.getModifiers()) + " " + name + " = " + f.get(null) + ";";
        } catch (IllegalAccessException | NullPointerException notStatic) {
            return f.toString();
        }
    }

    private static String line(int modifiers, String name, Class<?>[] types) {
        List<String> names = new ArrayList<>();
        for (Class<?> type : types) {
            names.add(type.getName());
        }
        return Modifier.toString(modifiers) + " " + name + "(" + String.join(", ", names) + ");";
    }

    /** Beside public members a class may have protected and package-visible ones. */
    private static void nothingElse() {
        Class<?> c = GraphEngines.class;
        check.due("nested classes", c.getDeclaredClasses().length, 0);
        check.due("constructors", c.getDeclaredConstructors().length, 1);
        for (Field f : c.getDeclaredFields()) {
            check.due(f + " is public or private", isPublicOrPrivate(f.getModifiers()), true);
        }
        for (Method m : c.getDeclaredMethods()) {
            check.due(m + " is public or private", isPublicOrPrivate(m.getModifiers()), true);
        }
    }

    private static boolean isPublicOrPrivate(int modifiers) {
        return Modifier.isPublic(modifiers) || Modifier.isPrivate(modifiers);
    }

    /** Only such constants can stand behind case: else this does not compile. */
    private static void constants() {
        for (int answer = -3; answer <= 0; answer++) {
            int name = switch (answer) {
                case GraphEngines.BAD -> 'B';
                case GraphEngines.NONE -> 'N';
                default -> '-';
            };
            check.due("the name of " + answer, name, "-NB-".charAt(answer + 3));
        }
    }

    /** A compiled class does not tell them, so they are looked for in the text. */
    private static void parameterNames() {
        String source = ProgramText.read();
        for (String line : FACE.split("\n")) {
            if (line.endsWith(");")) {
                String head = line.substring(0, line.length() - 1) + " {\n";
                check.due("the text has " + line.strip(), source.contains(head), true);
            }
        }
    }
}
