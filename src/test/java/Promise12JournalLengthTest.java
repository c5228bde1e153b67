public final class Promise12JournalLengthTest {
    public static void main(String[] args) {
        sentences().run();
    }

    static Sentences sentences() {
        return new Sentences("Promise 12: Journal lengths")
                .test("`journalLength()` answers the number of records held, 0..journalCapacity.", "each number",
                        Promise12JournalLengthTest::everyLengthUpToTheCapacity)
                .test("`durableLength()` answers the number of durable records, 0..journalLength.", "each number",
                        Promise12JournalLengthTest::everyDurableLength)
                .test("Neither changes anything.", Promise12JournalLengthTest::nothingChanges);
    }

    private static void everyLengthUpToTheCapacity() {
        for (int capacity = 8; capacity <= 128; capacity += 24) {
            SagaRunner x = new SagaRunner(1, capacity);
            for (int length = 0; length < capacity; length++) {
                Checks.due("journalLength()", x.journalLength(), length);
                x.tick(1);
            }
            Checks.due("journalLength()", x.journalLength(), capacity);
            x.tick(1);
            Checks.due("journalLength() after FULL", x.journalLength(), capacity);
            x.flush();
            Checks.due("journalLength() after flush", x.journalLength(), capacity);
        }
    }

    private static void everyDurableLength() {
        for (int durable = 0; durable <= 128; durable++) {
            SagaRunner x = new SagaRunner(1, 128);
            for (int i = 0; i < durable; i++) {
                x.tick(1);
            }
            Checks.lengthsAre(x, durable, 0);
            x.flush();
            Checks.lengthsAre(x, durable, durable);
            Checks.fillWithTicks(x, 128);
            Checks.lengthsAre(x, 128, durable);
            x.crash();
            Checks.lengthsAre(x, durable, durable);
        }
    }

    private static void nothingChanges() {
        SagaRunner x = Slots.oneInEachState();
        x.flush();
        x.tick(1);
        int[] before = Checks.answers(x);
        Checks.lengthsAre(x, 22, 21);
        Checks.lengthsAre(x, 22, 21);
        Checks.unchanged("asking for the lengths", before, x);
    }
}
