import java.io.IOException;
import java.lang.reflect.Field;
import java.lang.reflect.Method;
import java.lang.reflect.Modifier;
import java.nio.file.Files;
import java.nio.file.Path;
import java.util.Arrays;
import java.util.LinkedHashMap;
import java.util.Map;
import java.util.Set;
import java.util.TreeSet;
import java.util.regex.Matcher;
import java.util.regex.Pattern;
import java.util.stream.Collectors;

/** The class's face as the document gives it, and the rules of LANGUAGE.md that a program can look at. */
public final class LanguageTest {
    private static final Path SOURCE = Path.of("src/main/java/SagaRunner.java");
    private static final String CONSTANTS = "ACCEPTED=0 REFUSED=-1 STALE=-2 FULL=-3 COMPENSABLE=1 PIVOT=2"
            + " FREE=0 RUNNING=1 ABORTING=2 COMPENSATING=3 COMMITTED=4 ROLLED_BACK=5"
            + " IDLE=0 ACTIVE=1 DONE=2 FAILED=3 UNDOING=4 UNDONE=5"
            + " INST_STATE=0 INST_STAGE=1 INST_PAST_PIVOT=2"
            + " INFO_STATUS=0 INFO_ATTEMPT=1 INFO_DEADLINE=2 INFO_DONE_RANK=3 INFO_UNDO_RANK=4"
            + " J_START=1 J_OK=2 J_FAIL=3 J_TICK=4 J_RELEASE=5";
    private static final String METHODS = "defineStep(int,int,int,int) stepCount() start()"
            + " report(int,int,int,boolean) tick(int) release(int) flush() crash() clock() instanceInfo(int,int)"
            + " stepInfo(int,int,int) journalLength() durableLength() journalField(int,int)";
    private static final String FORBIDDEN = "\\b(import|package|throw|throws|try|catch|synchronized|assert|instanceof"
            + "|null|float|double|String|Math|Integer|Long|System|Arrays|Object|enum|record|interface|extends"
            + "|implements|protected|var)\\b|->|::|\\[\\]\\s*\\[\\]|\"";

    public static void main(String[] args) throws IOException, ReflectiveOperationException {
        classIsTheOneOfTheDocument();
        constantsAreTheDocuments();
        methodsAreTheDocuments();
        fieldsAreNumbersAndArrays();
        String code = Files.readString(SOURCE).replaceAll("//.*", "").replaceAll("(?s)/\\*.*?\\*/", "");
        wordsAreAllowed(code);
        arraysAreMadeInFields(code);
        methodsAreShortAndShallow(code);
        Checks.end();
    }

    private static void classIsTheOneOfTheDocument() {
        Class<?> c = SagaRunner.class;
        Checks.due("modifiers of the class", c.getModifiers(), Modifier.PUBLIC | Modifier.FINAL);
        Checks.due("nested classes", c.getDeclaredClasses().length, 0);
        Checks.due("constructors", c.getDeclaredConstructors().length, 1);
        Checks.holds("the constructor's form",
                c.getDeclaredConstructors()[0].toString().equals("public SagaRunner(int,int)"));
    }

    private static void constantsAreTheDocuments() throws IllegalAccessException {
        Set<String> found = new TreeSet<>();
        for (Field f : SagaRunner.class.getDeclaredFields()) {
            if (!Modifier.isPrivate(f.getModifiers())) {
                found.add(f.getName() + "=" + f.getInt(null));
                Checks.holds(f + " is a public constant", f.toString().startsWith("public static final int "));
            }
        }
        Checks.holds("the constants of the document: " + found, found.equals(words(CONSTANTS)));
    }

    private static void methodsAreTheDocuments() {
        Set<String> found = new TreeSet<>();
        Set<String> publicNames = new TreeSet<>();
        for (Method m : SagaRunner.class.getDeclaredMethods()) {
            Checks.holds(m + " takes at most seven parameters", m.getParameterCount() <= 7);
            if (!Modifier.isPrivate(m.getModifiers())) {
                publicNames.add(m.getName());
                found.add(m.getName() + Arrays.stream(m.getParameterTypes()).map(Class::getName)
                        .collect(Collectors.joining(",", "(", ")")));
                Checks.holds(m + " is public and answers an int", m.toString().startsWith("public int "));
            }
        }
        Checks.holds("the methods of the document: " + found, found.equals(words(METHODS)));
        for (Method m : SagaRunner.class.getDeclaredMethods()) {
            Checks.holds(m + " bears a name of its own",
                    !Modifier.isPrivate(m.getModifiers()) || !publicNames.contains(m.getName()));
        }
    }

    private static void fieldsAreNumbersAndArrays() {
        int fields = 0;
        for (Field f : SagaRunner.class.getDeclaredFields()) {
            Class<?> type = f.getType().isArray() ? f.getType().getComponentType() : f.getType();
            Checks.holds(f + " is of numbers", type.isPrimitive() && type != float.class && type != double.class);
            if (Modifier.isStatic(f.getModifiers())) {
                boolean constant = Modifier.isFinal(f.getModifiers());
                Checks.holds(f + " is a constant", constant && (f.getType() == int.class || f.getType() == long.class));
            } else {
                fields++;
            }
        }
        Checks.holds("at most forty fields", fields <= 40);
    }

    private static void wordsAreAllowed(String code) {
        Matcher m = Pattern.compile(FORBIDDEN).matcher(code);
        while (m.find()) {
            Checks.holds("that the class does without " + m.group(), false);
        }
        Checks.holds("the class is read", code.contains("public final class SagaRunner"));
    }

    private static void arraysAreMadeInFields(String code) {
        Pattern field = Pattern.compile("    private final int\\[\\] \\w+ = new int\\[[A-Z_]+\\];");
        for (String line : code.split("\n")) {
            if (line.matches(".*\\bnew\\b.*")) {
                Checks.holds("that a field makes the array: " + line, field.matcher(line).matches());
            }
        }
    }

    private static void methodsAreShortAndShallow(String code) {
        Map<String, String> bodies = new LinkedHashMap<>();
        Matcher m = Pattern.compile("(?ms)^    (?:public|private)(?: static)? (?:\\w+ )?(\\w+)\\([^)]*\\) \\{(.*?)^    \\}")
                .matcher(code);
        while (m.find()) {
            bodies.put(m.group(1), m.group(2));
        }
        Checks.due("methods read", bodies.size(), SagaRunner.class.getDeclaredMethods().length + 1);
        String names = String.join("|", bodies.keySet());
        for (Map.Entry<String, String> e : bodies.entrySet()) {
            Checks.holds(e.getKey() + " is short", e.getValue().lines().count() <= 60);
            Checks.holds("that calls from " + e.getKey() + " are at most six deep", depth(e.getKey(), bodies, 1) <= 6);
            Matcher nested = Pattern.compile("\\b(?:" + names + ")\\([^;{]*?\\b(?:" + names + ")\\(").matcher(e.getValue());
            while (nested.find()) {
                int open = nested.group().replaceAll("[^(]", "").length();
                int close = nested.group().replaceAll("[^)]", "").length();
                Checks.holds("that no call stands in the arguments of another: " + nested.group(), open - close < 2);
            }
        }
    }

    // Recursion shows as a depth without end, which is cut off here and is too deep anyway.
    private static int depth(String name, Map<String, String> bodies, int above) {
        int deepest = above;
        for (String called : bodies.keySet()) {
            if (above < 10 && Pattern.compile("\\b" + called + "\\(").matcher(bodies.get(name)).find()) {
                deepest = Math.max(deepest, depth(called, bodies, above + 1));
            }
        }
        return deepest;
    }

    private static Set<String> words(String list) {
        return new TreeSet<>(Arrays.asList(list.split(" ")));
    }
}
