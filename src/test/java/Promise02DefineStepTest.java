public final class Promise02DefineStepTest {
    public static void main(String[] args) {
        sentences().run();
    }

    static Sentences sentences() {
        Sentences all = new Sentences("Promise 2: Defining the template");
        conditions(all);
        return all.test("Otherwise the step gets index stepCount with the given stage, maxAttempts, timeout and flags",
                        Promise02DefineStepTest::stepKeepsWhatIsGiven)
                .test("stepCount grows by 1, and that index is answered", Promise02DefineStepTest::indicesAreAnswered)
                .test("In every slot the new step is IDLE with all its numbers 0.",
                        Promise02DefineStepTest::newStepIsIdleInEverySlot)
                .test("Nothing else changes; the journal is untouched.", Promise02DefineStepTest::nothingElseChanges)
                .test("`stepCount()` answers the number of template steps, 0..12, and changes nothing.",
                        Promise02DefineStepTest::stepCountGoesFromZeroToTwelve);
    }

    private static void conditions(Sentences all) {
        all.test("considers these conditions in order; the first that holds answers REFUSED", "more than one holds",
                        Promise02DefineStepTest::moreThanOneConditionHolds)
                .test("a `start()` was ever accepted on this object", Promise02DefineStepTest::startClosesTheTemplate)
                .test("(even if `crash()` later dropped its record)", Promise02DefineStepTest::crashOpensNothing)
                .test("stepCount is 12", Promise02DefineStepTest::thirteenthStepIsRefused)
                .test("stage is not 0 when stepCount is 0", Promise02DefineStepTest::firstStageIsZero)
                .test("when stepCount > 0, stage is neither the last step's stage nor that plus 1", "too small",
                        Promise02DefineStepTest::earlierStageIsRefused)
                .test("when stepCount > 0, stage is neither the last step's stage nor that plus 1", "too large",
                        Promise02DefineStepTest::farStageIsRefused)
                .test("when stepCount > 0, stage is neither the last step's stage nor that plus 1", "the two allowed",
                        Promise02DefineStepTest::sameAndNextStageAreAccepted)
                .test("maxAttempts outside 1..4", Promise02DefineStepTest::attemptsOutsideAreRefused)
                .test("timeout outside 1..15", Promise02DefineStepTest::timeoutOutsideIsRefused)
                .test("flags outside 0..3", Promise02DefineStepTest::flagsOutsideAreRefused)
                .test("flags has PIVOT and the stage already has a step", Promise02DefineStepTest::latePivotIsRefused)
                .test("the stage already has a PIVOT step", Promise02DefineStepTest::stepBesideAPivotIsRefused);
    }

    private static void refused(SagaRunner x, int stage, int maxAttempts, int timeout, int flags) {
        String call = "defineStep(" + stage + ", " + maxAttempts + ", " + timeout + ", " + flags + ")";
        Checks.refused(x, call, () -> x.defineStep(stage, maxAttempts, timeout, flags), SagaRunner.REFUSED);
    }

    private static void moreThanOneConditionHolds() {
        SagaRunner x = new SagaRunner(1, 16);
        refused(x, 1, 0, 0, 4);
        refused(x, Integer.MIN_VALUE, Integer.MIN_VALUE, Integer.MIN_VALUE, Integer.MIN_VALUE);
        refused(x, Integer.MAX_VALUE, Integer.MAX_VALUE, Integer.MAX_VALUE, Integer.MAX_VALUE);
        x.defineStep(0, 1, 1, SagaRunner.PIVOT);
        refused(x, 0, 1, 1, SagaRunner.PIVOT);
        refused(x, 0, 5, 16, 7);
        for (int stage = 1; stage < 12; stage++) {
            x.defineStep(stage, 1, 1, 0);
        }
        refused(x, 99, -1, -1, -1);
        x.start();
        refused(x, 99, -1, -1, -1);
        refused(x, 11, 1, 1, 0);
    }

    private static void startClosesTheTemplate() {
        SagaRunner x = new SagaRunner(1, 16);
        Checks.due("before", x.defineStep(0, 1, 1, 0), 0);
        x.start();
        refused(x, 0, 1, 1, 0);
        refused(x, 1, 1, 1, 0);
        x.report(0, 0, 1, true);
        x.release(0);
        Checks.slotIsFree(x, 0);
        refused(x, 0, 1, 1, 0);
        refused(x, 1, 1, 1, 0);
    }

    private static void crashOpensNothing() {
        SagaRunner x = new SagaRunner(1, 16);
        x.defineStep(0, 1, 1, 0);
        x.start();
        Checks.due("crash()", x.crash(), 1);
        Checks.lengthsAre(x, 0, 0);
        refused(x, 0, 1, 1, 0);
        refused(x, 1, 1, 1, 0);
        x.crash();
        refused(x, 1, 1, 1, 0);
    }

    private static void thirteenthStepIsRefused() {
        SagaRunner inOneStage = new SagaRunner(1, 8);
        SagaRunner inTwelve = new SagaRunner(1, 8);
        for (int step = 0; step < 12; step++) {
            Checks.due("step " + step, inOneStage.defineStep(0, 1, 1, 0), step);
            Checks.due("step " + step, inTwelve.defineStep(step, 1, 1, SagaRunner.PIVOT), step);
        }
        refused(inOneStage, 0, 1, 1, 0);
        refused(inOneStage, 1, 1, 1, 0);
        refused(inTwelve, 12, 1, 1, 0);
    }

    private static void firstStageIsZero() {
        SagaRunner x = new SagaRunner(1, 8);
        for (int stage : Checks.outside(0, 0)) {
            refused(x, stage, 1, 1, 0);
        }
        Checks.due("stage 0", x.defineStep(0, 1, 1, 0), 0);
    }

    private static SagaRunner lastStageIsTwo() {
        SagaRunner x = new SagaRunner(1, 8);
        x.defineStep(0, 1, 1, 0);
        x.defineStep(1, 1, 1, 0);
        x.defineStep(2, 1, 1, 0);
        return x;
    }

    private static void earlierStageIsRefused() {
        SagaRunner x = lastStageIsTwo();
        int[] tooSmall = {1, 0, -1, -2, -3, -254, Integer.MIN_VALUE, Integer.MIN_VALUE + 2};
        for (int stage : tooSmall) {
            refused(x, stage, 1, 1, 0);
        }
        SagaRunner one = new SagaRunner(1, 8);
        one.defineStep(0, 1, 1, 0);
        refused(one, -1, 1, 1, 0);
    }

    private static void farStageIsRefused() {
        SagaRunner x = lastStageIsTwo();
        int[] tooLarge = {4, 5, 12, 258, 259, 65538, 1 << 30, Integer.MAX_VALUE};
        for (int stage : tooLarge) {
            refused(x, stage, 1, 1, 0);
        }
    }

    private static void sameAndNextStageAreAccepted() {
        SagaRunner x = lastStageIsTwo();
        Checks.due("the last step's stage", x.defineStep(2, 1, 1, 0), 3);
        Checks.due("that plus 1", x.defineStep(3, 1, 1, 0), 4);
        Checks.due("the new last step's stage", x.defineStep(3, 1, 1, 0), 5);
    }

    private static void attemptsOutsideAreRefused() {
        for (int maxAttempts : Checks.outside(1, 4)) {
            refused(new SagaRunner(1, 8), 0, maxAttempts, 1, 0);
        }
        for (int maxAttempts = 1; maxAttempts <= 4; maxAttempts++) {
            Checks.due("maxAttempts " + maxAttempts, new SagaRunner(1, 8).defineStep(0, maxAttempts, 1, 0), 0);
        }
    }

    private static void timeoutOutsideIsRefused() {
        for (int timeout : Checks.outside(1, 15)) {
            refused(new SagaRunner(1, 8), 0, 1, timeout, 0);
        }
        for (int timeout = 1; timeout <= 15; timeout++) {
            Checks.due("timeout " + timeout, new SagaRunner(1, 8).defineStep(0, 1, timeout, 0), 0);
        }
    }

    private static void flagsOutsideAreRefused() {
        for (int flags : Checks.outside(0, 3)) {
            refused(new SagaRunner(1, 8), 0, 1, 1, flags);
        }
        for (int flags = 0; flags <= 3; flags++) {
            Checks.due("flags " + flags, new SagaRunner(1, 8).defineStep(0, 1, 1, flags), 0);
        }
    }

    private static void latePivotIsRefused() {
        SagaRunner x = new SagaRunner(1, 8);
        for (int before = 1; before <= 2; before++) {
            x.defineStep(0, 1, 1, SagaRunner.COMPENSABLE);
            refused(x, 0, 1, 1, SagaRunner.PIVOT);
            refused(x, 0, 1, 1, SagaRunner.PIVOT | SagaRunner.COMPENSABLE);
        }
        Checks.due("in a stage of its own", x.defineStep(1, 1, 1, SagaRunner.PIVOT), 2);
    }

    private static void stepBesideAPivotIsRefused() {
        SagaRunner x = new SagaRunner(1, 8);
        for (int pivot = SagaRunner.PIVOT; pivot <= 3; pivot++) {
            int stage = x.stepCount();
            Checks.due("pivot", x.defineStep(stage, 1, 1, pivot), stage);
            for (int flags = 0; flags <= 3; flags++) {
                refused(x, stage, 1, 1, flags);
            }
        }
        Checks.due("after the pivots", x.defineStep(2, 1, 1, 0), 2);
        Checks.due("beside a plain step", x.defineStep(2, 1, 1, 0), 3);
    }

    private static void stepKeepsWhatIsGiven() {
        SagaRunner x = new SagaRunner(1, 32);
        x.defineStep(0, 1, 15, 1);
        x.defineStep(0, 4, 1, 0);
        x.defineStep(1, 2, 7, 0);
        x.start();
        Checks.stepIs(x, 0, 0, SagaRunner.ACTIVE, 1, 15, 0, 0);
        Checks.stepIs(x, 0, 1, SagaRunner.ACTIVE, 1, 1, 0, 0);
        Checks.stepIs(x, 0, 2, SagaRunner.IDLE, 0, 0, 0, 0);
        for (int attempt = 1; attempt < 4; attempt++) {
            Checks.due("report", x.report(0, 1, attempt, false), SagaRunner.ACTIVE);
        }
        x.report(0, 1, 4, true);
        x.report(0, 0, 1, true);
        Checks.stepIs(x, 0, 2, SagaRunner.ACTIVE, 1, 7, 0, 0);
        Checks.due("report", x.report(0, 2, 1, false), SagaRunner.ACTIVE);
        Checks.due("report", x.report(0, 2, 2, false), SagaRunner.FAILED);
        Checks.due("undo of the COMPENSABLE one", x.report(0, 0, 1, true), SagaRunner.UNDONE);
        Checks.slotIs(x, 0, SagaRunner.ROLLED_BACK, 1, 0);
    }

    private static void indicesAreAnswered() {
        SagaRunner x = new SagaRunner(1, 8);
        for (int step = 0; step < 12; step++) {
            Checks.due("defineStep", x.defineStep(step / 5, 1, 1, 0), step);
            Checks.due("stepCount()", x.stepCount(), step + 1);
        }
    }

    private static void newStepIsIdleInEverySlot() {
        SagaRunner x = new SagaRunner(8, 8);
        for (int step = 0; step < 12; step++) {
            x.defineStep(0, 4, 15, 1);
            for (int inst = 0; inst < 8; inst++) {
                Checks.stepIs(x, inst, step, SagaRunner.IDLE, 0, 0, 0, 0);
            }
        }
    }

    private static void nothingElseChanges() {
        SagaRunner x = new SagaRunner(2, 8);
        x.tick(3);
        x.flush();
        Checks.fillWithTicks(x, 8);
        Checks.due("defineStep with a full journal", x.defineStep(0, 1, 1, 0), 0);
        Checks.lengthsAre(x, 8, 1);
        Checks.recordIs(x, 0, SagaRunner.J_TICK, 3, 0, 0);
        Checks.recordIs(x, 7, SagaRunner.J_TICK, 1, 0, 0);
        Checks.due("clock()", x.clock(), 10);
        Checks.slotIsFree(x, 0);
        Checks.slotIsFree(x, 1);
        x.crash();
        Checks.due("defineStep after a crash", x.defineStep(0, 1, 1, 0), 1);
        Checks.stepIs(x, 0, 0, SagaRunner.IDLE, 0, 0, 0, 0);
    }

    private static void stepCountGoesFromZeroToTwelve() {
        SagaRunner x = new SagaRunner(1, 8);
        for (int count = 0; count <= 12; count++) {
            int[] before = Checks.answers(x);
            Checks.due("stepCount()", x.stepCount(), count);
            Checks.unchanged("stepCount()", before, x);
            x.defineStep(0, 1, 1, 0);
        }
        Checks.due("stepCount() once full", x.stepCount(), 12);
    }
}
