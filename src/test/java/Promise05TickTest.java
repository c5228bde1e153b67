public final class Promise05TickTest {
    public static void main(String[] args) {
        wrongNumbersAreRefused();
        timeoutComesAtTheDeadline();
        oneTickIsOneTimeoutOfAStep();
        earlierStepsActFirst();
        undoBegunInATickDoesNotTimeOutInIt();
        timeoutsOfCompensations();
        slotsAreAllVisited();
        Checks.end();
    }

    private static void refused(SagaRunner x, int n, int want) {
        int[] before = Checks.answers(x);
        Checks.due("tick(" + n + ")", x.tick(n), want);
        Checks.unchanged("tick(" + n + ")", before, x);
    }

    private static void wrongNumbersAreRefused() {
        SagaRunner x = new SagaRunner(1, 8);
        int[] wrong = {Integer.MIN_VALUE, -1, 0, 17, Integer.MAX_VALUE};
        for (int n : wrong) {
            refused(x, n, SagaRunner.REFUSED);
        }
        Checks.due("tick(1)", x.tick(1), 0);
        x.flush();
        Checks.due("tick(16)", x.tick(16), 0);
        Checks.due("clock()", x.clock(), 17);
        Checks.due("durableLength()", x.durableLength(), 1);
        Checks.recordIs(x, 0, SagaRunner.J_TICK, 1, 0, 0);
        Checks.recordIs(x, 1, SagaRunner.J_TICK, 16, 0, 0);
        Checks.fillWithTicks(x, 8);
        for (int n : wrong) {
            refused(x, n, SagaRunner.REFUSED);
        }
        refused(x, 1, SagaRunner.FULL);
        refused(x, 16, SagaRunner.FULL);
    }

    private static void timeoutComesAtTheDeadline() {
        SagaRunner x = new SagaRunner(1, 32);
        x.defineStep(0, 2, 3, 0);
        x.start();
        Checks.due("tick(2)", x.tick(2), 0);
        Checks.stepIs(x, 0, 0, SagaRunner.ACTIVE, 1, 3, 0, 0);
        Checks.due("tick(1)", x.tick(1), 1);
        Checks.stepIs(x, 0, 0, SagaRunner.ACTIVE, 2, 6, 0, 0);
        Checks.due("late report", x.report(0, 0, 1, true), SagaRunner.STALE);
        Checks.due("tick(4)", x.tick(4), 1);
        Checks.stepIs(x, 0, 0, SagaRunner.FAILED, 2, 0, 0, 0);
        Checks.slotIs(x, 0, SagaRunner.ROLLED_BACK, 0, 0);
        Checks.due("tick(16)", x.tick(16), 0);
    }

    private static void oneTickIsOneTimeoutOfAStep() {
        SagaRunner x = new SagaRunner(1, 32);
        x.defineStep(0, 4, 1, 0);
        x.start();
        Checks.due("tick(16)", x.tick(16), 1);
        Checks.stepIs(x, 0, 0, SagaRunner.ACTIVE, 2, 17, 0, 0);
        Checks.due("journalLength()", x.journalLength(), 2);
    }

    private static void earlierStepsActFirst() {
        SagaRunner x = new SagaRunner(1, 32);
        x.defineStep(0, 2, 5, 0);
        x.defineStep(0, 1, 5, 0);
        x.defineStep(0, 4, 5, 0);
        x.start();
        Checks.due("tick(5)", x.tick(5), 3);
        // Step 0 is retried while RUNNING; step 1 aborts; step 2, examined later, is not retried.
        Checks.stepIs(x, 0, 0, SagaRunner.ACTIVE, 2, 10, 0, 0);
        Checks.stepIs(x, 0, 1, SagaRunner.FAILED, 1, 0, 0, 0);
        Checks.stepIs(x, 0, 2, SagaRunner.FAILED, 1, 0, 0, 0);
        Checks.slotIs(x, 0, SagaRunner.ABORTING, 0, 0);
        Checks.due("tick(5)", x.tick(5), 1);
        Checks.slotIs(x, 0, SagaRunner.ROLLED_BACK, 0, 0);
    }

    private static void undoBegunInATickDoesNotTimeOutInIt() {
        SagaRunner x = new SagaRunner(1, 32);
        x.defineStep(0, 1, 2, 0);
        x.defineStep(0, 1, 1, 1);
        x.start();
        x.report(0, 1, 1, true);
        Checks.due("tick(16)", x.tick(16), 1);
        Checks.slotIs(x, 0, SagaRunner.COMPENSATING, 0, 0);
        Checks.stepIs(x, 0, 1, SagaRunner.UNDOING, 1, 17, 1, 0);
    }

    private static void timeoutsOfCompensations() {
        SagaRunner x = new SagaRunner(1, 64);
        x.defineStep(0, 1, 2, 1);
        x.defineStep(1, 1, 1, 0);
        x.start();
        x.report(0, 0, 1, true);
        Checks.due("tick(1)", x.tick(1), 1);
        for (int attempt = 1; attempt <= 10; attempt++) {
            Checks.stepIs(x, 0, 0, SagaRunner.UNDOING, attempt, 1 + 2 * attempt, 1, 0);
            Checks.due("tick(1)", x.tick(1), 0);
            Checks.due("tick(1)", x.tick(1), 1);
        }
        Checks.slotIs(x, 0, SagaRunner.COMPENSATING, 1, 0);
    }

    private static void slotsAreAllVisited() {
        SagaRunner x = new SagaRunner(8, 64);
        for (int step = 0; step < 12; step++) {
            x.defineStep(0, 2, 15, 1);
        }
        for (int slot = 0; slot < 8; slot++) {
            x.start();
        }
        Checks.due("tick(14)", x.tick(14), 0);
        Checks.due("tick(1)", x.tick(1), 96);
        Checks.due("tick(16)", x.tick(16), 96);
        for (int slot = 0; slot < 8; slot++) {
            Checks.slotIs(x, slot, SagaRunner.ROLLED_BACK, 0, 0);
            Checks.stepIs(x, slot, 11, SagaRunner.FAILED, 2, 0, 0, 0);
        }
    }
}
