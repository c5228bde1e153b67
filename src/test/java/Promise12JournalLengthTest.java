public final class Promise12JournalLengthTest {
    public static void main(String[] args) {
        acceptedCallsAppendOneRecord();
        otherCallsAppendNone();
        lengthsGoUpToTheCapacity();
        Checks.end();
    }

    private static void lengthsAre(SagaRunner x, int journal, int durable) {
        Checks.due("journalLength()", x.journalLength(), journal);
        Checks.due("durableLength()", x.durableLength(), durable);
    }

    private static void acceptedCallsAppendOneRecord() {
        SagaRunner x = new SagaRunner(2, 16);
        x.defineStep(0, 2, 5, 1);
        lengthsAre(x, 0, 0);
        x.start();
        lengthsAre(x, 1, 0);
        x.report(0, 0, 1, false);
        lengthsAre(x, 2, 0);
        x.report(0, 0, 2, true);
        lengthsAre(x, 3, 0);
        x.flush();
        lengthsAre(x, 3, 3);
        x.tick(16);
        lengthsAre(x, 4, 3);
        x.release(0);
        lengthsAre(x, 5, 3);
        x.crash();
        lengthsAre(x, 3, 3);
    }

    private static void otherCallsAppendNone() {
        SagaRunner x = new SagaRunner(1, 16);
        x.start();
        x.defineStep(0, 1, 5, 1);
        x.tick(0);
        x.tick(17);
        x.release(0);
        x.report(0, 0, 1, true);
        x.report(1, 0, 1, true);
        x.flush();
        x.crash();
        lengthsAre(x, 0, 0);
        x.start();
        x.start();
        x.report(0, 0, 2, true);
        lengthsAre(x, 1, 0);
    }

    private static void lengthsGoUpToTheCapacity() {
        for (int capacity = 8; capacity <= 128; capacity += 40) {
            SagaRunner x = new SagaRunner(1, capacity);
            Checks.fillWithTicks(x, capacity);
            lengthsAre(x, capacity, 0);
            x.tick(1);
            lengthsAre(x, capacity, 0);
            x.flush();
            lengthsAre(x, capacity, capacity);
            x.tick(1);
            lengthsAre(x, capacity, capacity);
        }
    }
}
