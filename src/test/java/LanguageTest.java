import java.io.IOException;
import java.lang.reflect.Field;
import java.lang.reflect.Method;
import java.lang.reflect.Modifier;
import java.nio.file.Files;
import java.nio.file.Path;
import java.util.LinkedHashMap;
import java.util.Map;
import java.util.Set;
import java.util.TreeSet;
import java.util.regex.Matcher;
import java.util.regex.Pattern;

/**
 * The rules of ../shared/LANGUAGE.md, by their numbers, so far as a program can look at them: by reflection, by
 * patterns over the source, and by calls with far-off numbers.
 */
public final class LanguageTest {
    private static final Path SOURCE = Path.of("src/main/java/SagaRunner.java");
    private static final String FORBIDDEN = "\\b(import|package|throw|throws|try|catch|synchronized|assert|instanceof"
            + "|null|float|double|String|Math|Integer|Long|System|Arrays|Object|enum|record|interface|extends"
            + "|implements|protected|var)\\b|->|::|\\[\\]\\s*\\[\\]|\"";
    private static final int[] FAR_OFF = {Integer.MIN_VALUE, Integer.MIN_VALUE + 1, -65536, -256, -12, -2, -1, 0, 1, 2,
        3, 4, 7, 8, 11, 12, 15, 16, 96, 127, 128, 129, 256, 65536, 178956971, 357913942, 1 << 30, Integer.MAX_VALUE};

    public static void main(String[] args) throws IOException {
        String code = Files.readString(SOURCE).replaceAll("//.*", "").replaceAll("(?s)/\\*.*?\\*/", "");
        Map<String, String> bodies = bodies(code);
        Checks.begin("rule 1");
        oneClassWithNamesOfItsOwn();
        Checks.begin("rules 2 and 5");
        fieldsAreNumbersAndArrays();
        Checks.begin("rules 2, 3, 6 and 11");
        wordsAreAllowed(code);
        Checks.begin("rule 4");
        arraysAreMadeInFields(code);
        Checks.begin("rule 7");
        Checks.holds("that nothing is divided", !code.matches("(?s).*[/%].*"));
        for (SagaRunner x : inManyStates()) {
            noCallThrows(x);
        }
        Checks.begin("rule 8");
        bodies.forEach(LanguageTest::loopsCountUpToABound);
        Checks.begin("rules 8 and 10");
        methodsAreShortAndShallow(bodies);
        Checks.begin("rule 11");
        sameCallsGiveTheSameAnswers();
        Checks.end();
    }

    /** The body of each method and of the constructor, by its name. */
    private static Map<String, String> bodies(String code) {
        Map<String, String> bodies = new LinkedHashMap<>();
        String head = "^    (?:public|private)(?: static)? (?:\\w+ )?(\\w+)\\([^)]*\\) \\{";
        Matcher m = Pattern.compile("(?ms)" + head + "(.*?)^    \\}").matcher(code);
        while (m.find()) {
            bodies.put(m.group(1), m.group(2));
        }
        Checks.due("methods read", bodies.size(), SagaRunner.class.getDeclaredMethods().length + 1);
        return bodies;
    }

    // What others can see of the class is FaceTest's concern.
    private static void oneClassWithNamesOfItsOwn() {
        Checks.due("nested classes", SagaRunner.class.getDeclaredClasses().length, 0);
        Checks.due("interfaces", SagaRunner.class.getInterfaces().length, 0);
        Checks.holds("that it extends nothing", SagaRunner.class.getSuperclass() == Object.class);
        Set<String> publicNames = new TreeSet<>();
        for (Method m : SagaRunner.class.getMethods()) {
            publicNames.add(m.getName());
        }
        for (Method m : SagaRunner.class.getDeclaredMethods()) {
            Checks.holds("that " + m + " bears a name of its own",
                    !Modifier.isPrivate(m.getModifiers()) || !publicNames.contains(m.getName()));
        }
    }

    private static void fieldsAreNumbersAndArrays() {
        for (Field f : SagaRunner.class.getDeclaredFields()) {
            Class<?> type = f.getType().isArray() ? f.getType().getComponentType() : f.getType();
            Checks.holds(f + " is of numbers", type.isPrimitive() && type != float.class && type != double.class);
            if (Modifier.isStatic(f.getModifiers())) {
                boolean constant = Modifier.isFinal(f.getModifiers());
                Checks.holds(f + " is a constant", constant && (f.getType() == int.class || f.getType() == long.class));
            }
        }
    }

    private static void wordsAreAllowed(String code) {
        Matcher m = Pattern.compile(FORBIDDEN).matcher(code);
        while (m.find()) {
            Checks.holds("that the class does without " + m.group(), false);
        }
        Checks.holds("that the class is read", code.contains("public final class SagaRunner"));
    }

    // A final field cannot be assigned to by a method.
    private static void arraysAreMadeInFields(String code) {
        Pattern field = Pattern.compile("    private final int\\[\\] \\w+ = new int\\[[A-Z_]+\\];");
        for (String line : code.split("\n")) {
            if (line.matches(".*\\bnew\\b.*")) {
                Checks.holds("that a field makes the array: " + line, field.matcher(line).matches());
            }
        }
    }

    private static SagaRunner[] inManyStates() {
        SagaRunner full = Slots.oneInEachState();
        Checks.fillWithTicks(full, 64);
        SagaRunner fullAndFlushed = new SagaRunner(8, 128);
        for (int stage = 0; stage < 12; stage++) {
            fullAndFlushed.defineStep(stage, 1, 1, SagaRunner.COMPENSABLE);
        }
        fullAndFlushed.start();
        Checks.fillWithTicks(fullAndFlushed, 128);
        fullAndFlushed.flush();
        SagaRunner crashed = Slots.oneInEachState();
        crashed.crash();
        return new SagaRunner[] {new SagaRunner(1, 8), new SagaRunner(8, 128), Slots.defined(1, 8),
            Slots.oneInEachState(), full, fullAndFlushed, crashed};
    }

    /** With far-off numbers in every place; what is answered is the promises' concern. */
    private static void noCallThrows(SagaRunner x) {
        try {
            for (int a : FAR_OFF) {
                x.release(a);
                for (int b : FAR_OFF) {
                    x.instanceInfo(a, b);
                    x.journalField(a, b);
                    for (int c : FAR_OFF) {
                        x.stepInfo(a, b, c);
                        x.report(a, b, c, false);
                        x.report(a, b, c, true);
                        x.defineStep(a, b, c, a);
                        x.defineStep(c, 1, b, a);
                    }
                }
                x.start();
                x.tick(a);
                x.crash();
                x.flush();
            }
            Checks.holds("that the calls end", x.durableLength() == x.journalLength());
        } catch (RuntimeException thrown) {
            Checks.holds("that no call throws " + thrown, false);
        }
    }

    private static void loopsCountUpToABound(String name, String body) {
        Checks.holds("that " + name + " has for loops alone", !body.matches("(?s).*\\b(while|do)\\b.*"));
        Matcher loop = Pattern.compile("\\bfor \\((.*)\\) \\{").matcher(body);
        Pattern counting = Pattern.compile("int (\\w+) = 0; \\1 < (\\w+); \\1\\+\\+");
        int loops = 0;
        while (loop.find()) {
            loops++;
            Matcher head = counting.matcher(loop.group(1));
            boolean counts = head.matches();
            Checks.holds("that a counter runs to a bound in " + name + ": " + loop.group(1), counts);
            if (counts) {
                String rest = body.substring(loop.end());
                Checks.holds("that " + name + " leaves its counter alone", !isAssigned(head.group(1), rest));
                Checks.holds("that " + name + " leaves its bound alone", !isAssigned(head.group(2), rest));
            }
        }
        Checks.due("loops of " + name + " that are read", loops, body.split("\\bfor\\b", -1).length - 1);
    }

    // The head of a later loop may declare the counter's name anew, and there it may count.
    private static boolean isAssigned(String variable, String code) {
        String withoutHeads = code.replaceAll("\\bfor \\(.*\\) \\{", "");
        String v = "\\b" + variable + "\\b";
        return Pattern.compile(v + "\\s*(\\+\\+|--|([-+*/%&|^]|<<|>>>?)?=(?!=))|(\\+\\+|--)\\s*" + v)
                .matcher(withoutHeads).find();
    }

    private static void methodsAreShortAndShallow(Map<String, String> bodies) {
        int fields = 0;
        for (Field f : SagaRunner.class.getDeclaredFields()) {
            fields += Modifier.isStatic(f.getModifiers()) ? 0 : 1;
        }
        Checks.holds("that there are at most forty fields", fields <= 40);
        for (Method m : SagaRunner.class.getDeclaredMethods()) {
            Checks.holds("that " + m + " takes at most seven parameters", m.getParameterCount() <= 7);
        }
        String call = "\\b(?:" + String.join("|", bodies.keySet()) + ")\\(";
        for (Map.Entry<String, String> e : bodies.entrySet()) {
            Checks.holds(e.getKey() + " is short", e.getValue().lines().count() <= 60);
            Checks.holds("that calls from " + e.getKey() + " are at most six deep", depth(e.getKey(), bodies, 1) <= 6);
            Matcher nested = Pattern.compile(call + "[^;{]*?" + call).matcher(e.getValue());
            while (nested.find()) {
                int open = nested.group().replaceAll("[^(]", "").length();
                int close = nested.group().replaceAll("[^)]", "").length();
                Checks.holds("that no call stands in the arguments of another: " + nested.group(), open - close < 2);
            }
        }
    }

    // Recursion shows as a depth without end, which is cut off here and is too deep anyway.
    private static int depth(String name, Map<String, String> bodies, int above) {
        int deepest = above;
        for (String called : bodies.keySet()) {
            if (above < 10 && Pattern.compile("\\b" + called + "\\(").matcher(bodies.get(name)).find()) {
                deepest = Math.max(deepest, depth(called, bodies, above + 1));
            }
        }
        return deepest;
    }

    private static void sameCallsGiveTheSameAnswers() {
        int[] once = Checks.answers(Scenario.afterCalls(Scenario.CALLS));
        Checks.unchanged("a second object", once, Scenario.afterCalls(Scenario.CALLS));
    }
}
