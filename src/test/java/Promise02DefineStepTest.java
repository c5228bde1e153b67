public final class Promise02DefineStepTest {
    public static void main(String[] args) {
        firstStepIsOfStageZero();
        edgesAreAccepted();
        wrongNumbersAreRefused();
        stagesComeInOrder();
        pivotStandsAlone();
        atMostTwelveSteps();
        twelveStagesOfOneStep();
        refusedOnceStarted();
        refusedEvenIfCrashDropsTheStart();
        ticksDoNotCloseTheTemplate();
        Checks.end();
    }

    private static void refused(SagaRunner x, int stage, int maxAttempts, int timeout, int flags) {
        String call = "defineStep(" + stage + ", " + maxAttempts + ", " + timeout + ", " + flags + ")";
        int[] before = Checks.answers(x);
        Checks.due(call, x.defineStep(stage, maxAttempts, timeout, flags), SagaRunner.REFUSED);
        Checks.unchanged(call, before, x);
    }

    private static void firstStepIsOfStageZero() {
        SagaRunner x = new SagaRunner(2, 16);
        refused(x, 1, 1, 1, 0);
        refused(x, -1, 1, 1, 0);
        refused(x, Integer.MAX_VALUE, 1, 1, 0);
        refused(x, Integer.MIN_VALUE, 1, 1, 0);
        Checks.due("first step", x.defineStep(0, 1, 1, 0), 0);
        Checks.due("stepCount()", x.stepCount(), 1);
        Checks.due("journalLength()", x.journalLength(), 0);
        Checks.stepIs(x, 0, 0, 0, 0, 0, 0, 0);
        Checks.stepIs(x, 1, 0, 0, 0, 0, 0, 0);
    }

    private static void edgesAreAccepted() {
        for (int flags = 0; flags <= 3; flags++) {
            Checks.due("least", new SagaRunner(1, 8).defineStep(0, 1, 1, flags), 0);
            Checks.due("greatest", new SagaRunner(1, 8).defineStep(0, 4, 15, flags), 0);
        }
    }

    private static void wrongNumbersAreRefused() {
        SagaRunner x = new SagaRunner(1, 8);
        int[] far = {Integer.MIN_VALUE, -1, Integer.MAX_VALUE};
        for (int wrong : far) {
            refused(x, 0, wrong, 1, 0);
            refused(x, 0, 1, wrong, 0);
            refused(x, 0, 1, 1, wrong);
        }
        refused(x, 0, 0, 1, 0);
        refused(x, 0, 5, 1, 0);
        refused(x, 0, 1, 0, 0);
        refused(x, 0, 1, 16, 0);
        refused(x, 0, 1, 1, 4);
        Checks.due("stepCount()", x.stepCount(), 0);
    }

    private static void stagesComeInOrder() {
        SagaRunner x = new SagaRunner(1, 8);
        Checks.due("stage 0", x.defineStep(0, 1, 1, 0), 0);
        refused(x, -1, 1, 1, 0);
        refused(x, 2, 1, 1, 0);
        Checks.due("stage 0 again", x.defineStep(0, 1, 1, 1), 1);
        Checks.due("stage 1", x.defineStep(1, 1, 1, 0), 2);
        refused(x, 0, 1, 1, 0);
        refused(x, 3, 1, 1, 0);
        Checks.due("stage 2", x.defineStep(2, 1, 1, 0), 3);
        Checks.due("stage 2 again", x.defineStep(2, 1, 1, 0), 4);
    }

    private static void pivotStandsAlone() {
        SagaRunner x = new SagaRunner(1, 8);
        Checks.due("plain", x.defineStep(0, 1, 1, 0), 0);
        refused(x, 0, 1, 1, SagaRunner.PIVOT);
        refused(x, 0, 1, 1, SagaRunner.PIVOT | SagaRunner.COMPENSABLE);
        Checks.due("pivot", x.defineStep(1, 1, 1, SagaRunner.PIVOT), 1);
        refused(x, 1, 1, 1, 0);
        refused(x, 1, 1, 1, SagaRunner.COMPENSABLE);
        refused(x, 1, 1, 1, SagaRunner.PIVOT);
        Checks.due("second pivot", x.defineStep(2, 1, 1, 3), 2);
        refused(x, 2, 1, 1, 0);
        Checks.due("after the pivots", x.defineStep(3, 1, 1, 1), 3);
        Checks.due("beside it", x.defineStep(3, 1, 1, 1), 4);
    }

    private static void atMostTwelveSteps() {
        SagaRunner x = new SagaRunner(1, 32);
        for (int step = 0; step < 12; step++) {
            Checks.due("step " + step, x.defineStep(0, 1, 1, 0), step);
            Checks.due("stepCount()", x.stepCount(), step + 1);
        }
        refused(x, 0, 1, 1, 0);
        refused(x, 1, 1, 1, 0);
    }

    private static void twelveStagesOfOneStep() {
        SagaRunner x = new SagaRunner(1, 32);
        for (int step = 0; step < 12; step++) {
            Checks.due("step " + step, x.defineStep(step, 1, 1, SagaRunner.PIVOT), step);
        }
        refused(x, 12, 1, 1, 0);
        x.start();
        for (int step = 0; step < 12; step++) {
            Checks.slotIs(x, 0, SagaRunner.RUNNING, step, step == 0 ? 0 : 1);
            Checks.due("report", x.report(0, step, 1, true), SagaRunner.DONE);
        }
        Checks.slotIs(x, 0, SagaRunner.COMMITTED, 11, 1);
    }

    private static void refusedOnceStarted() {
        SagaRunner x = new SagaRunner(1, 16);
        Checks.due("start() without steps", x.start(), SagaRunner.REFUSED);
        Checks.due("a refused start closes nothing", x.defineStep(0, 1, 1, 0), 0);
        Checks.due("start()", x.start(), 0);
        refused(x, 0, 1, 1, 0);
        refused(x, 1, 1, 1, 0);
        x.report(0, 0, 1, true);
        x.release(0);
        refused(x, 0, 1, 1, 0);
    }

    private static void refusedEvenIfCrashDropsTheStart() {
        SagaRunner x = new SagaRunner(1, 16);
        x.defineStep(0, 1, 1, 0);
        x.start();
        Checks.due("crash()", x.crash(), 1);
        Checks.due("journalLength()", x.journalLength(), 0);
        refused(x, 0, 1, 1, 0);
        refused(x, 1, 1, 1, 0);
        x.crash();
        refused(x, 1, 1, 1, 0);
    }

    private static void ticksDoNotCloseTheTemplate() {
        SagaRunner x = new SagaRunner(1, 8);
        Checks.due("tick(3)", x.tick(3), 0);
        Checks.due("after a tick", x.defineStep(0, 1, 1, 0), 0);
        x.flush();
        x.crash();
        Checks.due("after a crash", x.defineStep(1, 1, 1, 0), 1);
        Checks.fillWithTicks(x, 8);
        Checks.due("with a full journal", x.defineStep(1, 1, 1, 0), 2);
        Checks.due("start() with a full journal", x.start(), SagaRunner.FULL);
        Checks.due("a start answered FULL closes nothing", x.defineStep(1, 1, 1, 0), 3);
    }
}
