public final class Promise03StartTest {
    public static void main(String[] args) {
        startIssuesStageZero();
        deadlinesCountFromTheClock();
        leastFreeSlotIsTaken();
        conditionsComeInOrder();
        Checks.end();
    }

    private static void refused(SagaRunner x, int want) {
        int[] before = Checks.answers(x);
        Checks.due("start()", x.start(), want);
        Checks.unchanged("start()", before, x);
    }

    private static void startIssuesStageZero() {
        SagaRunner x = new SagaRunner(2, 16);
        x.defineStep(0, 2, 3, 1);
        x.defineStep(0, 1, 15, 0);
        x.defineStep(1, 1, 1, 0);
        Checks.due("start()", x.start(), 0);
        Checks.slotIs(x, 0, SagaRunner.RUNNING, 0, 0);
        Checks.stepIs(x, 0, 0, SagaRunner.ACTIVE, 1, 3, 0, 0);
        Checks.stepIs(x, 0, 1, SagaRunner.ACTIVE, 1, 15, 0, 0);
        Checks.stepIs(x, 0, 2, SagaRunner.IDLE, 0, 0, 0, 0);
        Checks.slotIs(x, 1, SagaRunner.FREE, 0, 0);
        Checks.stepIs(x, 1, 0, SagaRunner.IDLE, 0, 0, 0, 0);
        Checks.due("journalLength()", x.journalLength(), 1);
        Checks.due("durableLength()", x.durableLength(), 0);
        Checks.due("clock()", x.clock(), 0);
        Checks.recordIs(x, 0, SagaRunner.J_START, 0, 0, 0);
    }

    private static void deadlinesCountFromTheClock() {
        SagaRunner x = new SagaRunner(2, 16);
        x.defineStep(0, 1, 5, 0);
        x.tick(16);
        x.flush();
        x.start();
        x.tick(2);
        Checks.due("start()", x.start(), 1);
        Checks.stepIs(x, 0, 0, SagaRunner.ACTIVE, 1, 21, 0, 0);
        Checks.stepIs(x, 1, 0, SagaRunner.ACTIVE, 1, 23, 0, 0);
        Checks.due("durableLength()", x.durableLength(), 1);
        Checks.due("clock()", x.clock(), 18);
        Checks.recordIs(x, 3, SagaRunner.J_START, 1, 0, 0);
    }

    private static void leastFreeSlotIsTaken() {
        SagaRunner x = new SagaRunner(4, 64);
        x.defineStep(0, 1, 15, 0);
        for (int slot = 0; slot < 4; slot++) {
            Checks.due("start()", x.start(), slot);
        }
        refused(x, SagaRunner.REFUSED);
        x.report(3, 0, 1, true);
        x.report(1, 0, 1, true);
        refused(x, SagaRunner.REFUSED);
        x.release(3);
        x.release(1);
        Checks.due("start()", x.start(), 1);
        Checks.due("start()", x.start(), 3);
        refused(x, SagaRunner.REFUSED);
    }

    private static void conditionsComeInOrder() {
        SagaRunner empty = new SagaRunner(1, 8);
        refused(empty, SagaRunner.REFUSED);
        Checks.fillWithTicks(empty, 8);
        refused(empty, SagaRunner.REFUSED);

        SagaRunner busy = new SagaRunner(1, 8);
        busy.defineStep(0, 1, 15, 0);
        busy.start();
        Checks.fillWithTicks(busy, 8);
        refused(busy, SagaRunner.REFUSED);

        SagaRunner full = new SagaRunner(2, 8);
        full.defineStep(0, 1, 15, 0);
        full.start();
        Checks.fillWithTicks(full, 8);
        refused(full, SagaRunner.FULL);
    }
}
