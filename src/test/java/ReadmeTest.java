import java.io.IOException;
import java.lang.reflect.InvocationTargetException;
import java.lang.reflect.Method;
import java.lang.reflect.Modifier;
import java.nio.file.Files;
import java.nio.file.Path;
import java.util.Arrays;
import java.util.TreeSet;
import java.util.regex.Matcher;
import java.util.regex.Pattern;

/** That each answer which README.md shows of a call is the one that the class gives, and that none is left out. */
public final class ReadmeTest {
    private static final String NEW = "ProofDesk desk = new ProofDesk();";
    private static final Pattern ROW =
        Pattern.compile("desk\\.(\\w+)\\(([-\\d, ]*)\\); *// (true|false|-?\\d+|throws \\w+)(: .+)?");

    private static final Checks CHECKS = new Checks();
    private static final TreeSet<String> SHOWN = new TreeSet<>();

    private static ProofDesk desk;

    public static void main(String[] args) throws IOException {
        boolean inside = false;
        for (String line : Files.readAllLines(Path.of("README.md"))) {
            if (line.startsWith("```")) {
                inside = line.equals("```java");
                desk = null;
            } else if (inside) {
                row(line);
            }
        }
        CHECKS.due(face(), "the calls that README.md shows", () -> SHOWN);
        CHECKS.end();
    }

    private static void row(String line) {
        if (line.equals(NEW)) {
            desk = new ProofDesk();
            return;
        }
        Matcher row = ROW.matcher(line);
        boolean told = row.matches();
        // A row that is not understood would else be an answer that nobody looks at.
        CHECKS.due(true, "README.md shows a call and its answer in: " + line, () -> told);
        if (told) {
            SHOWN.add(row.group(1));
            String want = row.group(3).replace("throws ", "throws.");
            CHECKS.due(want, "README.md: " + line, () -> answered(row.group(1), row.group(2).split(", ")));
        }
    }

    private static Object answered(String name, String[] arguments) {
        Method method = methodOf(name);
        // Reflection refuses a wrong number of arguments as the class refuses a wrong argument.
        if (arguments.length != method.getParameterCount()) {
            return "nothing: it takes " + method.getParameterCount() + " arguments";
        }
        Object[] values = new Object[arguments.length];
        for (int i = 0; i < values.length; i++) {
            values[i] = method.getParameterTypes()[i] == long.class
                ? (Object) Long.valueOf(arguments[i])
                : (Object) Integer.valueOf(arguments[i]);
        }
        try {
            return method.invoke(desk, values);
        } catch (InvocationTargetException e) {
            throw (RuntimeException) e.getCause();
        } catch (IllegalAccessException e) {
            throw new AssertionError(e);
        }
    }

    private static Method methodOf(String name) {
        return Arrays.stream(ProofDesk.class.getMethods())
            .filter(method -> method.getName().equals(name))
            .findFirst()
            .orElseThrow();
    }

    private static TreeSet<String> face() {
        TreeSet<String> names = new TreeSet<>();
        for (Method method : ProofDesk.class.getDeclaredMethods()) {
            if (Modifier.isPublic(method.getModifiers())) {
                names.add(method.getName());
            }
        }
        return names;
    }
}
