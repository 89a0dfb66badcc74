import java.io.IOException;
import java.lang.reflect.Constructor;
import java.lang.reflect.Field;
import java.lang.reflect.Method;
import java.lang.reflect.Modifier;
import java.nio.file.Files;
import java.nio.file.Path;
import java.util.ArrayDeque;
import java.util.Arrays;
import java.util.Deque;
import java.util.HashMap;
import java.util.HashSet;
import java.util.List;
import java.util.Map;
import java.util.Set;
import java.util.TreeSet;
import java.util.regex.Matcher;
import java.util.regex.Pattern;

/** The public face of the document, and the rules of LANGUAGE.md that a text or a class file tells. */
public final class LanguageTest {
    private static final Due due = new Due();
    private static final Path SOURCE = Path.of("src/main/java/PlanarOverlay.java");

    private static final String[] FACE = {
        "boolean begin(int, int)", "boolean go(int, int)", "boolean draw(int)", "boolean fill(int, int)",
        "boolean point(int, int, int)", "boolean combine(int, int, int, int)", "boolean grow(int, int)",
        "boolean shrink(int, int)", "boolean turn(int, int)", "int relate(int, int)",
        "int measure(int, int)", "int nearest(int, int, int)", "int route(int, int, int)",
        "int piece(int, int, int)", "int part(int, int, int)", "boolean covers(int, int)"};

    private static final Set<String> FORBIDDEN = Set.of(
        "package", "import", "throw", "throws", "try", "catch", "finally", "synchronized", "assert",
        "instanceof", "float", "double", "null", "String", "Math", "Integer", "System", "Arrays",
        "Object", "enum", "interface", "record", "protected", "native", "this", "super", "var");

    // Words that stand before a parenthesis without being calls.
    private static final Set<String> NO_CALLS = Set.of("if", "for", "while", "switch", "return", "new");

    private static final Pattern METHOD = Pattern.compile(
        "\\n    (?:public|private) (?:static )?(?:int|boolean|void) (\\w+)\\(([^)]*)\\) \\{\\n(.*?)\\n    \\}",
        Pattern.DOTALL);
    private static final Pattern CALL = Pattern.compile("(\\w+)\\(");

    public static void main(String[] args) throws IOException {
        publicFace();
        fields();
        String text = Files.readString(SOURCE).replaceAll("(?s)/\\*.*?\\*/", "").replaceAll("//[^\\n]*", "");
        words(text);
        arrays(text);
        callsInArguments(text);
        methods(text);
        due.end();
    }

    private static void publicFace() {
        due.is("modifiers of the class", PlanarOverlay.class.getModifiers(), Modifier.PUBLIC | Modifier.FINAL);
        due.is("nested classes", PlanarOverlay.class.getDeclaredClasses().length, 0);
        Constructor<?>[] constructors = PlanarOverlay.class.getDeclaredConstructors();
        due.is("constructors", constructors.length, 1);
        due.is("its parameters", constructors[0].getParameterCount(), 0);
        due.is("its modifiers", constructors[0].getModifiers(), Modifier.PUBLIC);
        Set<String> found = new TreeSet<>();
        Set<String> hidden = new HashSet<>();
        for (Method method : PlanarOverlay.class.getDeclaredMethods()) {
            due.yes("at most seven parameters: " + method, method.getParameterCount() <= 7);
            if (Modifier.isPrivate(method.getModifiers())) {
                hidden.add(method.getName());
                continue;
            }
            due.is("modifiers of " + method, method.getModifiers(), Modifier.PUBLIC);
            String parameters = Arrays.toString(method.getParameterTypes()).replace("[", "(").replace("]", ")");
            found.add(method.getReturnType() + " " + method.getName() + parameters);
            due.yes("throws nothing: " + method, method.getExceptionTypes().length == 0);
        }
        Set<String> asked = new TreeSet<>(List.of(FACE));
        due.yes("the face is " + asked + ", found is " + found, asked.equals(found));
        for (String signature : FACE) {
            String name = signature.substring(signature.indexOf(' ') + 1, signature.indexOf('('));
            due.no("a private method named " + name, hidden.contains(name));
        }
    }

    private static void fields() {
        int beside = 0;
        for (Field field : PlanarOverlay.class.getDeclaredFields()) {
            due.yes("private: " + field, Modifier.isPrivate(field.getModifiers()));
            Class<?> type = field.getType();
            if (Modifier.isStatic(field.getModifiers())) {
                due.yes("final: " + field, Modifier.isFinal(field.getModifiers()));
                due.yes("int or long: " + field, type == int.class || type == long.class);
                continue;
            }
            beside++;
            if (type.isArray()) {
                due.yes("never assigned again: " + field, Modifier.isFinal(field.getModifiers()));
                type = type.getComponentType();
            }
            boolean number = type.isPrimitive() && type != float.class && type != double.class;
            due.yes("of a type that rule 2 leaves: " + field, number);
        }
        due.yes("at most forty fields, found " + beside, beside <= 40);
    }

    private static void words(String text) {
        Matcher word = Pattern.compile("\\w+").matcher(text);
        while (word.find()) {
            due.no("the word " + word.group(), FORBIDDEN.contains(word.group()));
        }
        due.no("a text", text.contains("\""));
        due.no("a lambda or a method reference", text.contains("->") || text.contains("::"));
    }

    private static void arrays(String text) {
        String field = "(?m)^    private final (\\w+)\\[\\] \\w+ = new \\1\\[[A-Z_0-9]+\\];$";
        due.no("new outside of a field's initialiser", text.replaceAll(field, "").contains("new "));
        due.no("an array answered", Pattern.compile("\\w+\\[\\] \\w+\\(").matcher(text).find());
    }

    /** Walks over all parentheses and remembers which of the open ones belong to a call. */
    private static void callsInArguments(String text) {
        Deque<Boolean> open = new ArrayDeque<>();
        for (int n = 0; n < text.length(); n++) {
            if (text.charAt(n) == '(') {
                int start = n;
                while (start > 0 && Character.isJavaIdentifierPart(text.charAt(start - 1))) {
                    start--;
                }
                String name = text.substring(start, n);
                boolean call = !name.isEmpty() && !NO_CALLS.contains(name);
                due.no("a call inside of arguments: " + name, call && open.contains(true));
                open.push(call);
            } else if (text.charAt(n) == ')') {
                open.pop();
            }
        }
    }

    private static void methods(String text) {
        Map<String, String> bodies = new HashMap<>();
        Matcher method = METHOD.matcher(text);
        while (method.find()) {
            due.no("a second method " + method.group(1), bodies.containsKey(method.group(1)));
            bodies.put(method.group(1), method.group(3));
            due.yes("short: " + method.group(1), method.group(3).split("\n").length <= 60);
        }
        due.is("methods read", bodies.size(), PlanarOverlay.class.getDeclaredMethods().length);
        for (String name : bodies.keySet()) {
            int depth = depth(bodies, name, 1);
            due.yes(name + " calls at most six deep, found " + depth, depth <= 6);
        }
    }

    /** Recursion of the program would go on for ever, and is told as a depth above the bound. */
    private static int depth(Map<String, String> bodies, String name, int above) {
        int deepest = above;
        Matcher call = CALL.matcher(bodies.get(name));
        while (above <= 6 && call.find()) {
            if (bodies.containsKey(call.group(1))) {
                deepest = Math.max(deepest, depth(bodies, call.group(1), above + 1));
            }
        }
        return deepest;
    }
}
