import java.util.Arrays;

public final class Promise07FlushTest {
    /** Where durableLength stands among Checks.answers, the one answer that a flush may change. */
    private static final int DURABLE_LENGTH = 3;

    public static void main(String[] args) {
        sentences().run();
    }

    static Sentences sentences() {
        return new Sentences("Promise 7: Flushing")
                .test("`flush()` is never refused.", "an empty journal", Promise07FlushTest::emptyJournalIsFlushed)
                .test("`flush()` is never refused.", "a full journal", Promise07FlushTest::fullJournalIsFlushed)
                .test("durableLength becomes journalLength, and the new durableLength is answered.",
                        Promise07FlushTest::durableLengthIsAnswered)
                .test("It appends nothing and changes nothing else", Promise07FlushTest::nothingElseChanges)
                .test("a second flush in a row answers the same value", Promise07FlushTest::secondFlushIsTheSame);
    }

    private static void emptyJournalIsFlushed() {
        SagaRunner x = new SagaRunner(1, 8);
        int[] before = Checks.answers(x);
        Checks.due("flush()", x.flush(), 0);
        Checks.unchanged("flush() of nothing", before, x);
        x.tick(1);
        x.crash();
        Checks.due("flush() after a crash", x.flush(), 0);
    }

    private static void fullJournalIsFlushed() {
        for (int capacity = 8; capacity <= 128; capacity += 8) {
            SagaRunner x = new SagaRunner(1, capacity);
            Checks.fillWithTicks(x, capacity);
            Checks.due("flush()", x.flush(), capacity);
            Checks.lengthsAre(x, capacity, capacity);
        }
    }

    private static void durableLengthIsAnswered() {
        SagaRunner x = new SagaRunner(1, 16);
        for (int records = 1; records <= 16; records++) {
            x.tick(1);
            Checks.lengthsAre(x, records, records - 1);
            Checks.due("flush()", x.flush(), records);
            Checks.lengthsAre(x, records, records);
        }
    }

    private static void nothingElseChanges() {
        SagaRunner x = Slots.oneInEachState();
        x.tick(3);
        int[] before = Checks.answers(x);
        Checks.due("flush()", x.flush(), 22);
        before[DURABLE_LENGTH] = 22;
        Checks.holds("that flush() changes durableLength alone", Arrays.equals(before, Checks.answers(x)));
    }

    private static void secondFlushIsTheSame() {
        SagaRunner x = Slots.oneInEachState();
        Checks.due("flush()", x.flush(), 21);
        int[] before = Checks.answers(x);
        Checks.due("second flush()", x.flush(), 21);
        Checks.due("third flush()", x.flush(), 21);
        Checks.unchanged("a second flush()", before, x);
    }
}
