import java.util.ArrayList;
import java.util.List;

/**
 * The tests of one part of the document. Each names, word for word, the sentence or the part of one that it would see
 * broken; DocumentTest holds these words against the document itself.
 */
final class Sentences {
    private record Case(String quote, String edge, Runnable test) {
    }

    private final String heading;
    private final List<Case> cases = new ArrayList<>();

    Sentences(String heading) {
        this.heading = heading;
    }

    Sentences test(String quote, Runnable test) {
        return test(quote, "", test);
    }

    /** For a sentence that names more than one boundary: edge tells which one this test is about. */
    Sentences test(String quote, String edge, Runnable test) {
        cases.add(new Case(quote, edge, test));
        return this;
    }

    String heading() {
        return heading;
    }

    List<String> quotes() {
        return cases.stream().map(Case::quote).toList();
    }

    void run() {
        for (Case one : cases) {
            Checks.begin(heading + ", \"" + one.quote + "\"" + (one.edge.isEmpty() ? "" : ", " + one.edge));
            int before = Checks.made();
            try {
                one.test.run();
            } catch (RuntimeException thrown) {
                Checks.holds("that no call throws " + thrown, false);
            }
            Checks.holds("that the test checks something", Checks.made() > before);
        }
        Checks.end();
    }
}
