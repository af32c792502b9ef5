import java.lang.reflect.Field;
import java.lang.reflect.Method;
import java.lang.reflect.Modifier;
import java.util.HashSet;
import java.util.Map;
import java.util.Set;
import java.util.regex.Matcher;
import java.util.regex.Pattern;

/**
 * The program keeps to LANGUAGE.md, rule by rule, as far as it can be seen from its members and
 * its text. That no call throws or fails to end (rule 7) is tested with the promises.
 */
public final class LanguageTest {
    private static final int MOST_LINES = 60;
    private static final int MOST_PARAMETERS = 7;
    private static final int MOST_DEEP = 6;
    private static final int MOST_FIELDS = 40;

    private static final Check check = new Check();
    private static final String code = ProgramText.read();
    private static final Map<String, String> bodies = ProgramText.bodies();

    public static void main(String[] args) {
        check.run("the text is read rightly", LanguageTest::readRightly);
        check.run("rule 1: one class in one file", LanguageTest::oneClass);
        check.run("rule 1: no private method has a public one's name", LanguageTest::privateNames);
        check.run("rule 2: types", LanguageTest::types);
        check.run("rule 3: no class of the library", LanguageTest::noLibrary);
        check.run("rule 4: arrays", LanguageTest::arrays);
        check.run("rule 5: static fields", LanguageTest::staticFields);
        check.run("rule 6: words that are left out", LanguageTest::leftOut);
        check.run("rule 8: no recursion, and calls six deep", LanguageTest::depth);
        check.run("rule 8: loops", LanguageTest::loops);
        check.run("rule 10: parameters and fields", LanguageTest::parametersAndFields);
        check.run("rule 10: no call in a call's arguments", LanguageTest::callsInArguments);
        check.run("rule 10: short methods", LanguageTest::shortMethods);
        check.end();
    }

    private static void absent(String pattern) {
        Matcher found = Pattern.compile(pattern).matcher(code);
        check.due("times of " + pattern, found.results().count(), 0);
    }

    /** Each method and the constructor has a name of its own and is found in the text. */
    private static void readRightly() {
        check.due("bodies", bodies.size(), GraphEngines.class.getDeclaredMethods().length + 1);
    }

    private static void oneClass() {
        check.due("files", ProgramText.FILE.getParent().toFile().list().length, 1);
        check.due("nested classes", GraphEngines.class.getDeclaredClasses().length, 0);
        check.due("begins with the class", code.strip().startsWith("public final class"), true);
        absent("\\b(package|interface|enum|record|protected)\\b");
    }

    private static void privateNames() {
        Set<String> publicNames = new HashSet<>();
        Set<String> both = new HashSet<>();
        for (Method m : GraphEngines.class.getDeclaredMethods()) {
            (Modifier.isPublic(m.getModifiers()) ? publicNames : both).add(m.getName());
        }
        both.retainAll(publicNames);
        check.due("names of both kinds " + both, both.size(), 0);
    }

    private static void types() {
        absent("\\b(float|double|var|extends|implements)\\b");
        absent("\\]\\s*\\[");
        absent("<\\w*>");
        absent("[\"@]");
        for (Field f : GraphEngines.class.getDeclaredFields()) {
            Class<?> part = f.getType().isArray() ? f.getType().getComponentType() : f.getType();
            check.due(f + " is simple", part.isPrimitive(), true);
        }
    }

    /** Without a dot and a class name there is no way to the library but Object's own methods. */
    private static void noLibrary() {
        absent("\\b(import|this|super)\\b");
        absent("\\.");
        absent("\\b(?!GraphEngines\\b)[A-Z]\\w*[a-z]\\w*\\b");
        for (String called : ProgramText.calls(String.join("", bodies.values()))) {
            check.due(called + " is the program's own", bodies.containsKey(called), true);
        }
    }

    private static void arrays() {
        absent("\\bnull\\b");
        Matcher made = Pattern.compile("(?m)^.*\\bnew\\b.*$").matcher(code);
        while (made.find()) {
            String line = made.group();
            boolean field = line.matches("    private final int\\[\\] \\w+ = new int\\[[A-Z_]+\\];");
            check.due("made in a field's initialiser:" + line, field, true);
        }
        for (Method m : GraphEngines.class.getDeclaredMethods()) {
            check.due(m + " answers no array", m.getReturnType().isArray(), false);
        }
    }

    private static void staticFields() {
        absent("\\bstatic\\s*\\{");
        for (Field f : GraphEngines.class.getDeclaredFields()) {
            if (Modifier.isStatic(f.getModifiers())) {
                String start = "static final " + f.getType() + " " + f.getName() + " = ";
                check.due(f + " is a number", f.getType() == int.class || f.getType() == long.class, true);
                String value = Pattern.quote(start) + "-?\\d+;";
                check.due(f + " is constant", Pattern.compile(value).matcher(code).find(), true);
            }
        }
    }

    private static void leftOut() {
        absent("\\b(throws?|try|catch|finally|synchronized|assert|instanceof|native|volatile)\\b");
        absent("->|::");
        absent("\\((int\\[\\]|[A-Z]\\w*[a-z]\\w*)\\)");
    }

    private static void depth() {
        for (String name : bodies.keySet()) {
            // A circle of calls is deeper than any bound.
            check.due(name + " is shallow", isShallow(name, MOST_DEEP), true);
        }
    }

    private static boolean isShallow(String name, int deep) {
        if (deep == 0) {
            return false;
        }
        for (String called : ProgramText.calls(bodies.get(name))) {
            if (!isShallow(called, deep - 1)) {
                return false;
            }
        }
        return true;
    }

    /**
     * The rule asks for an end that can be seen. Here this is held more narrowly: each loop counts
     * one variable against a bound in its first line, and nothing else in the method sets it.
     */
    private static void loops() {
        absent("\\b(while|do)\\b");
        Pattern counted = Pattern.compile(
                "\\(int (\\w+) = [^;]+; \\1 (?:(?:<|<=) [^;]+; \\1\\+\\+|(?:>|>=) [^;]+; \\1--)\\) \\{");
        for (String name : bodies.keySet()) {
            String body = bodies.get(name);
            Matcher loop = Pattern.compile("\\bfor (.*)").matcher(body);
            while (loop.find()) {
                Matcher counter = counted.matcher(loop.group(1));
                boolean found = counter.matches();
                check.due(name + " counts: " + loop.group(), found, true);
                String set = found ? "(?<!int )\\b" + counter.group(1) + " [-+*/%&|^]?= " : "";
                boolean also = Pattern.compile(set).matcher(body).find();
                check.due(name + " sets its counter: " + loop.group(), also, false);
            }
        }
    }

    private static void parametersAndFields() {
        for (Method m : GraphEngines.class.getDeclaredMethods()) {
            check.due(m + " has few", m.getParameterCount() <= MOST_PARAMETERS, true);
        }
        int fields = 0;
        for (Field f : GraphEngines.class.getDeclaredFields()) {
            fields += Modifier.isStatic(f.getModifiers()) ? 0 : 1;
        }
        check.due("few fields", fields <= MOST_FIELDS, true);
    }

    private static void callsInArguments() {
        for (String name : bodies.keySet()) {
            for (String arguments : ProgramText.arguments(bodies.get(name)).values()) {
                int inside = ProgramText.calls(arguments).size();
                check.due(name + " calls in (" + arguments + ")", inside, 0);
            }
        }
    }

    private static void shortMethods() {
        for (String name : bodies.keySet()) {
            long lines = bodies.get(name).lines().count();
            check.due(name + " is short", lines <= MOST_LINES, true);
        }
    }
}
