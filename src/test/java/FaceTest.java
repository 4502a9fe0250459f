import java.lang.reflect.Constructor;
import java.lang.reflect.Field;
import java.lang.reflect.Method;
import java.lang.reflect.Modifier;
import java.util.Arrays;
import java.util.List;
import java.util.TreeSet;

/** The public face of the document, and no member beside it that others can see (LANGUAGE.md, rule 1). */
public final class FaceTest {
    private static final List<String> FACE = List.of(
        "boolean begin[int, int][]",
        "boolean member[int][]",
        "int product[int, int][IllegalArgumentException]",
        "int power[int, long][IllegalArgumentException]",
        "int inverse[int][IllegalArgumentException]",
        "int log[int][IllegalArgumentException, IllegalStateException]",
        "boolean accepts[int, int, int, int][]",
        "int answer[int, int, int][IllegalArgumentException]",
        "int feign[int, int, int][IllegalArgumentException]",
        "int secret[int, int, int, int][IllegalArgumentException]",
        "int count[int][IllegalArgumentException]");

    public static void main(String[] args) {
        Checks checks = new Checks();
        checks.due(Modifier.PUBLIC | Modifier.FINAL, "modifiers of the class", () -> ProofDesk.class.getModifiers());
        checks.due(new TreeSet<>(FACE), "the methods that are seen", FaceTest::seenMethods);
        for (Constructor<?> made : ProofDesk.class.getDeclaredConstructors()) {
            checks.due("public ProofDesk()", "the constructor", made::toString);
        }
        for (Field field : ProofDesk.class.getDeclaredFields()) {
            int kind = field.getModifiers();
            checks.due(true, "private " + field.getName(), () -> Modifier.isPrivate(kind));
            checks.due(true, "static only if final " + field.getName(),
                () -> !Modifier.isStatic(kind) || Modifier.isFinal(kind));
        }
        checks.end();
    }

    private static TreeSet<String> seenMethods() {
        TreeSet<String> seen = new TreeSet<>();
        for (Method method : ProofDesk.class.getDeclaredMethods()) {
            if (!Modifier.isPrivate(method.getModifiers())) {
                seen.add(method.getReturnType().getSimpleName() + " " + method.getName()
                    + names(method.getParameterTypes()) + names(method.getExceptionTypes()));
            }
        }
        return seen;
    }

    private static String names(Class<?>[] types) {
        return Arrays.toString(Arrays.stream(types).map(Class::getSimpleName).toArray());
    }
}
