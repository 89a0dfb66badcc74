import java.io.IOException;
import java.lang.reflect.Method;
import java.nio.file.Files;
import java.nio.file.Path;
import java.util.Arrays;
import java.util.Set;
import java.util.TreeSet;
import java.util.regex.Matcher;
import java.util.regex.Pattern;

/** What README.md says of the class: its list of the public face, and its example with the answers. */
public final class ReadmeTest {
    private static final Due due = new Due();
    private static final Pattern EXAMPLE = Pattern.compile("(?s)```java\\n(.*?)```");
    private static final Pattern CALL = Pattern.compile("o\\.(\\w+)\\(([-0-9, ]*)\\); +// (true|false|-?\\d+)\\b.*");
    private static final Pattern LISTED = Pattern.compile("(?m)^\\| `((?:boolean|int) \\w+)\\(([^)]*)\\)`");

    public static void main(String[] args) throws IOException {
        String text = Files.readString(Path.of("README.md"));
        due.yes("the face in README.md: " + listed(text) + ", in the class: " + face(), listed(text).equals(face()));
        Matcher example = EXAMPLE.matcher(text);
        due.yes("README.md has an example", example.find());
        run(example.group(1).split("\n"));
        due.end();
    }

    private static Set<String> listed(String text) {
        Set<String> found = new TreeSet<>();
        Matcher call = LISTED.matcher(text);
        while (call.find()) {
            found.add(call.group(1) + "(" + call.group(2).replaceAll("int \\w+", "int") + ")");
        }
        return found;
    }

    private static Set<String> face() {
        Set<String> found = new TreeSet<>();
        for (Method method : PlanarOverlay.class.getMethods()) {
            if (method.getDeclaringClass() == PlanarOverlay.class) {
                String parameters = Arrays.toString(method.getParameterTypes());
                found.add(method.getReturnType() + " " + method.getName() + parameters.replace("[", "(").replace("]", ")"));
            }
        }
        return found;
    }

    private static void run(String[] lines) {
        PlanarOverlay o = new PlanarOverlay();
        due.yes("the example makes an object", lines[0].equals("PlanarOverlay o = new PlanarOverlay();"));
        Set<String> used = new TreeSet<>();
        for (int n = 1; n < lines.length; n++) {
            Matcher call = CALL.matcher(lines[n]);
            boolean read = call.matches();
            due.yes("a call with its answer: " + lines[n], read || lines[n].isBlank());
            if (read) {
                used.add(call.group(1));
                String got = answer(o, call.group(1), call.group(2));
                due.yes(lines[n] + " answered " + got, got.equals(call.group(3)));
            }
        }
        due.is("methods in the example", used.size(), face().size());
    }

    private static String answer(PlanarOverlay o, String name, String numbers) {
        Object[] arguments = Arrays.stream(numbers.split(", ")).map(Integer::valueOf).toArray();
        Class<?>[] types = new Class<?>[arguments.length];
        Arrays.fill(types, int.class);
        try {
            return String.valueOf(PlanarOverlay.class.getMethod(name, types).invoke(o, arguments));
        } catch (ReflectiveOperationException wrong) {
            return wrong.toString();
        }
    }
}
