import java.io.IOException;
import java.lang.reflect.Method;
import java.nio.file.Files;
import java.nio.file.Path;
import java.util.Arrays;
import java.util.HashMap;
import java.util.List;
import java.util.Map;
import java.util.regex.Matcher;
import java.util.regex.Pattern;

/** README.md tells the truth: its example is run as it stands there, and every call and constant is named. */
public final class ReadmeTest {
    private static final Path README = Path.of("README.md");
    private static final Pattern MADE = Pattern.compile("SagaRunner saga = new SagaRunner\\((\\d+), (\\d+)\\);.*");
    private static final Pattern CALL =
            Pattern.compile("(?:int (\\w+) = )?saga\\.(\\w+)\\((.*?)\\);\\s+// (\\w+)(?:: .*)?");

    private final SagaRunner saga;
    private final Map<String, Integer> variables = new HashMap<>();

    private ReadmeTest(int instances, int journalCapacity) {
        saga = new SagaRunner(instances, journalCapacity);
    }

    public static void main(String[] args) throws IOException, ReflectiveOperationException {
        Checks.begin("README.md");
        String text = Files.readString(README);
        exampleAnswersAsWritten(text);
        for (String call : Face.calls()) {
            Checks.holds("that it names " + call, text.contains("`" + call + "`"));
        }
        for (String constant : Face.constants()) {
            Checks.holds("that it names " + constant, text.contains("`" + constant + "`"));
        }
        Checks.holds("that it tells how to run the tests", text.contains("\n    .ci/run\n"));
        Checks.end();
    }

    private static void exampleAnswersAsWritten(String text) throws ReflectiveOperationException {
        List<String> lines = Arrays.stream(text.split("```")[1].split("\n"))
                .skip(1)
                .filter(line -> !line.isBlank())
                .toList();
        Matcher made = MADE.matcher(lines.get(0));
        if (!made.matches()) {
            Checks.holds("that the example makes an object: " + lines.get(0), false);
            return;
        }
        ReadmeTest run = new ReadmeTest(Integer.parseInt(made.group(1)), Integer.parseInt(made.group(2)));
        for (String line : lines.subList(1, lines.size())) {
            run.lineAnswersAsWritten(line);
        }
    }

    private void lineAnswersAsWritten(String line) throws ReflectiveOperationException {
        Matcher call = CALL.matcher(line);
        if (!call.matches()) {
            Checks.holds("that this is a call with its answer behind it: " + line, false);
            return;
        }
        Object[] arguments = Arrays.stream(call.group(3).split(", "))
                .filter(word -> !word.isEmpty())
                .map(this::value)
                .toArray();
        int answer = (int) method(call.group(2)).invoke(saga, arguments);
        Checks.due(line, answer, (int) value(call.group(4)));
        if (call.group(1) != null) {
            variables.put(call.group(1), answer);
        }
    }

    private static Method method(String name) {
        return Arrays.stream(SagaRunner.class.getMethods())
                .filter(m -> m.getName().equals(name))
                .findFirst()
                .orElseThrow();
    }

    /** A number, true or false, a variable of the example, or a constant with or without the name of its class. */
    private Object value(String word) {
        if (word.matches("-?\\d+")) {
            return Integer.valueOf(word);
        }
        if (word.matches("true|false")) {
            return Boolean.valueOf(word);
        }
        if (variables.containsKey(word)) {
            return variables.get(word);
        }
        try {
            return SagaRunner.class.getField(word.replace("SagaRunner.", "")).get(null);
        } catch (ReflectiveOperationException none) {
            throw new IllegalArgumentException("README.md's example has an unknown word: " + word, none);
        }
    }
}
