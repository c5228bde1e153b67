import java.io.IOException;
import java.nio.file.Files;
import java.nio.file.Path;
import java.util.ArrayList;
import java.util.LinkedHashMap;
import java.util.List;
import java.util.Map;
import java.util.stream.Stream;

/** Holds the tests against the document: what they quote stands there, and each of its sentences has a test. */
public final class DocumentTest {
    private static final Path DOCUMENT = Path.of("../shared/DOC.md");
    private static final Path TESTS = Path.of("src/test/java");

    private static final List<Sentences> TESTED = List.of(
            OverviewTest.sentences(),
            DefinitionsTemplateTest.sentences(),
            DefinitionsRulesTest.sentences(),
            DefinitionsJournalTest.sentences(),
            Promise01ConstructionTest.sentences(),
            Promise02DefineStepTest.sentences(),
            Promise03StartTest.sentences(),
            Promise04ReportTest.sentences(),
            Promise05TickTest.sentences(),
            Promise06ReleaseTest.sentences(),
            Promise07FlushTest.sentences(),
            Promise08CrashTest.sentences(),
            Promise09ClockTest.sentences(),
            Promise10InstanceInfoTest.sentences(),
            Promise11StepInfoTest.sentences(),
            Promise12JournalLengthTest.sentences(),
            Promise13JournalFieldTest.sentences());

    public static void main(String[] args) throws IOException {
        Map<String, List<String>> parts = partsToTest();
        Checks.due("parts of the document: what it is, the definitions and thirteen promises", parts.size(), 15);
        for (Map.Entry<String, List<String>> part : parts.entrySet()) {
            partIsTested(part.getKey(), part.getValue());
        }
        everyTestFileIsListed();
        Checks.end();
    }

    /** Each heading with its sentences. "The public face" has none and is FaceTest's; "Not promised" asks nothing. */
    private static Map<String, List<String>> partsToTest() throws IOException {
        Map<String, List<String>> parts = new LinkedHashMap<>();
        String heading = "";
        for (String line : Files.readAllLines(DOCUMENT)) {
            if (line.startsWith("## ")) {
                heading = line.substring(3);
            } else if (!line.isBlank() && heading.matches("What it is|Definitions|Promise .*")) {
                List<String> sentences = parts.computeIfAbsent(heading, none -> new ArrayList<>());
                sentences.addAll(List.of(line.trim().split("(?<=\\.) (?=[A-Z`])")));
            }
        }
        return parts;
    }

    private static void partIsTested(String heading, List<String> sentences) {
        String text = String.join(" ", sentences);
        boolean[] quoted = new boolean[text.length()];
        for (Sentences tests : TESTED) {
            if (tests.heading().equals(heading)) {
                for (String quote : tests.quotes()) {
                    markQuote(heading, text, quote, quoted);
                }
            }
        }
        int from = 0;
        for (String sentence : sentences) {
            boolean tested = false;
            for (int i = from; i < from + sentence.length(); i++) {
                tested |= quoted[i];
            }
            Checks.holds(heading + ", that a test quotes: " + sentence, tested);
            from += sentence.length() + 1;
        }
    }

    private static void markQuote(String heading, String text, String quote, boolean[] quoted) {
        int from = text.indexOf(quote);
        Checks.holds(heading + ", that the document says it once: " + quote,
                from >= 0 && from == text.lastIndexOf(quote));
        for (int i = Math.max(from, 0); from >= 0 && i < from + quote.length(); i++) {
            quoted[i] = true;
        }
    }

    private static void everyTestFileIsListed() throws IOException {
        try (Stream<Path> files = Files.list(TESTS)) {
            long found = files.map(file -> file.getFileName().toString())
                    .filter(name -> name.matches("(Overview|Definitions|Promise).*Test\\.java"))
                    .count();
            Checks.due("test files that quote the document", TESTED.size(), (int) found);
        }
    }
}
