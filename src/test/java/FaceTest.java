import java.io.IOException;
import java.lang.reflect.Constructor;
import java.lang.reflect.Field;
import java.lang.reflect.Method;
import java.lang.reflect.Modifier;
import java.util.Arrays;
import java.util.Set;
import java.util.TreeSet;
import java.util.stream.Collectors;

/** The class has what the document writes down under "The public face", and nothing that others can see beside it. */
public final class FaceTest {
    private static final int CONSTANTS = 31;
    private static final int METHODS = 14;

    public static void main(String[] args) throws IOException, IllegalAccessException {
        Checks.begin("The public face");
        Set<String> due = new TreeSet<>();
        for (String declaration : Face.declarations()) {
            due.add(declaration.replaceAll("\\b(int|boolean) \\w+(?=[,)])", "$1"));
        }
        // The class itself and its constructor are the two others.
        Checks.due("declarations in the document", due.size(), CONSTANTS + METHODS + 2);
        Set<String> found = ofTheClass();
        for (String declaration : due) {
            Checks.holds("that the class has " + declaration, found.contains(declaration));
        }
        for (String declaration : found) {
            Checks.holds("that the document has " + declaration, due.contains(declaration));
        }
        Checks.end();
    }

    private static Set<String> ofTheClass() throws IllegalAccessException {
        Set<String> found = new TreeSet<>();
        found.add(Modifier.toString(SagaRunner.class.getModifiers()) + " class " + SagaRunner.class.getName());
        for (Constructor<?> c : SagaRunner.class.getDeclaredConstructors()) {
            found.add(modifiers(c.getModifiers()) + c.getName() + parameters(c.getParameterTypes()));
        }
        for (Field f : SagaRunner.class.getDeclaredFields()) {
            if (!Modifier.isPrivate(f.getModifiers())) {
                String value = Modifier.isStatic(f.getModifiers()) ? " = " + f.get(null) : "";
                found.add(modifiers(f.getModifiers()) + f.getType().getName() + " " + f.getName() + value);
            }
        }
        for (Method m : SagaRunner.class.getDeclaredMethods()) {
            if (!Modifier.isPrivate(m.getModifiers())) {
                found.add(modifiers(m.getModifiers()) + m.getReturnType().getName() + " " + m.getName()
                        + parameters(m.getParameterTypes()));
            }
        }
        return found;
    }

    private static String modifiers(int bits) {
        return bits == 0 ? "" : Modifier.toString(bits) + " ";
    }

    private static String parameters(Class<?>[] types) {
        return Arrays.stream(types).map(Class::getName).collect(Collectors.joining(", ", "(", ")"));
    }
}
