public final class Promise06ReleaseTest {
    public static void main(String[] args) {
        committedSlotIsFreed();
        rolledBackSlotIsFreed();
        unfinishedSlotsAreRefused();
        conditionsComeInOrder();
        Checks.end();
    }

    private static void refused(SagaRunner x, int inst, int want) {
        int[] before = Checks.answers(x);
        Checks.due("release(" + inst + ")", x.release(inst), want);
        Checks.unchanged("release(" + inst + ")", before, x);
    }

    private static SagaRunner twoStages() {
        SagaRunner x = new SagaRunner(2, 8);
        x.defineStep(0, 1, 5, 3);
        x.defineStep(1, 1, 5, 1);
        return x;
    }

    private static void committedSlotIsFreed() {
        SagaRunner x = twoStages();
        x.start();
        x.start();
        x.tick(1);
        x.flush();
        x.report(0, 0, 1, true);
        x.report(0, 1, 1, true);
        Checks.slotIs(x, 0, SagaRunner.COMMITTED, 1, 1);
        Checks.due("release(0)", x.release(0), SagaRunner.ACCEPTED);
        slotIsFree(x, 0);
        Checks.slotIs(x, 1, SagaRunner.RUNNING, 0, 0);
        Checks.stepIs(x, 1, 0, SagaRunner.ACTIVE, 1, 5, 0, 0);
        Checks.recordIs(x, 5, SagaRunner.J_RELEASE, 0, 0, 0);
        Checks.due("journalLength()", x.journalLength(), 6);
        Checks.due("durableLength()", x.durableLength(), 3);
        Checks.due("clock()", x.clock(), 1);
        refused(x, 0, SagaRunner.REFUSED);
        Checks.due("start()", x.start(), 0);
        Checks.slotIs(x, 0, SagaRunner.RUNNING, 0, 0);
        Checks.stepIs(x, 0, 0, SagaRunner.ACTIVE, 1, 6, 0, 0);
        Checks.stepIs(x, 0, 1, SagaRunner.IDLE, 0, 0, 0, 0);
    }

    private static void rolledBackSlotIsFreed() {
        SagaRunner x = new SagaRunner(2, 32);
        x.defineStep(0, 1, 5, 1);
        x.defineStep(1, 1, 5, 0);
        x.start();
        x.start();
        x.report(1, 0, 1, true);
        x.report(1, 1, 1, false);
        refused(x, 1, SagaRunner.REFUSED);
        x.report(1, 0, 1, true);
        Checks.slotIs(x, 1, SagaRunner.ROLLED_BACK, 1, 0);
        Checks.due("release(1)", x.release(1), SagaRunner.ACCEPTED);
        slotIsFree(x, 1);
        Checks.recordIs(x, 5, SagaRunner.J_RELEASE, 1, 0, 0);
    }

    private static void slotIsFree(SagaRunner x, int inst) {
        Checks.slotIs(x, inst, SagaRunner.FREE, 0, 0);
        for (int step = 0; step < x.stepCount(); step++) {
            Checks.stepIs(x, inst, step, SagaRunner.IDLE, 0, 0, 0, 0);
        }
    }

    private static void unfinishedSlotsAreRefused() {
        SagaRunner x = new SagaRunner(1, 32);
        x.defineStep(0, 1, 5, 1);
        x.defineStep(0, 1, 5, 1);
        refused(x, 0, SagaRunner.REFUSED);
        x.start();
        refused(x, 0, SagaRunner.REFUSED);
        x.report(0, 0, 1, false);
        Checks.slotIs(x, 0, SagaRunner.ABORTING, 0, 0);
        refused(x, 0, SagaRunner.REFUSED);
        x.report(0, 1, 1, true);
        Checks.slotIs(x, 0, SagaRunner.COMPENSATING, 0, 0);
        refused(x, 0, SagaRunner.REFUSED);
    }

    private static void conditionsComeInOrder() {
        SagaRunner x = twoStages();
        x.start();
        x.report(0, 0, 1, false);
        x.start();
        outsideIsRefused(x);
        x.release(0);
        x.start();
        x.report(0, 0, 1, false);
        x.report(1, 0, 1, true);
        x.tick(1);
        Checks.due("journalLength()", x.journalLength(), 8);
        outsideIsRefused(x);
        Checks.slotIs(x, 1, SagaRunner.RUNNING, 1, 1);
        refused(x, 1, SagaRunner.REFUSED);
        Checks.slotIs(x, 0, SagaRunner.ROLLED_BACK, 0, 0);
        refused(x, 0, SagaRunner.FULL);
    }

    private static void outsideIsRefused(SagaRunner x) {
        int[] outside = {Integer.MIN_VALUE, -1, 2, 8, Integer.MAX_VALUE};
        for (int inst : outside) {
            refused(x, inst, SagaRunner.REFUSED);
        }
    }
}
