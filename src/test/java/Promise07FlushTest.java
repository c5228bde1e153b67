import java.util.Arrays;

public final class Promise07FlushTest {
    public static void main(String[] args) {
        flushTakesTheWholeJournal();
        flushChangesNothingElse();
        flushOfAFullJournal();
        Checks.end();
    }

    private static void flushTakesTheWholeJournal() {
        SagaRunner x = new SagaRunner(1, 8);
        Checks.due("flush() of nothing", x.flush(), 0);
        x.tick(1);
        x.tick(1);
        Checks.due("durableLength()", x.durableLength(), 0);
        Checks.due("flush()", x.flush(), 2);
        Checks.due("durableLength()", x.durableLength(), 2);
        Checks.due("second flush()", x.flush(), 2);
        x.tick(1);
        Checks.due("durableLength()", x.durableLength(), 2);
        Checks.due("flush()", x.flush(), 3);
        Checks.due("journalLength()", x.journalLength(), 3);
    }

    private static void flushChangesNothingElse() {
        SagaRunner x = new SagaRunner(2, 16);
        x.defineStep(0, 2, 5, 1);
        x.start();
        x.tick(3);
        x.report(0, 0, 1, false);
        int[] before = Checks.answers(x);
        Checks.due("flush()", x.flush(), 3);
        int[] after = Checks.answers(x);
        before[3] = 3; // durableLength, the one answer that may change
        Checks.holds("that flush() changes durableLength alone", Arrays.equals(before, after));
        x.flush();
        Checks.unchanged("a second flush()", after, x);
    }

    private static void flushOfAFullJournal() {
        SagaRunner x = new SagaRunner(1, 128);
        Checks.fillWithTicks(x, 128);
        Checks.due("flush()", x.flush(), 128);
        Checks.due("flush()", x.flush(), 128);
    }
}
