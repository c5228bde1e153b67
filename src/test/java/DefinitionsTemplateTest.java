/** Of the definitions: template, slots and clock. */
public final class DefinitionsTemplateTest {
    public static void main(String[] args) {
        sentences().run();
    }

    static Sentences sentences() {
        return new Sentences("Definitions")
                .test("Steps have indices 0..stepCount-1 (at most 12).", "too large an index",
                        DefinitionsTemplateTest::indexOfStepCountIsNoStep)
                .test("Steps have indices 0..stepCount-1 (at most 12).", "a thirteenth step",
                        DefinitionsTemplateTest::thirteenthStepHasNoIndex)
                .test("maxAttempts (1..4)", DefinitionsTemplateTest::oneToFourAttempts)
                .test("a timeout (1..15 ticks)", DefinitionsTemplateTest::oneToFifteenTicks)
                .test("flags (a combination of COMPENSABLE = 1 and PIVOT = 2)",
                        DefinitionsTemplateTest::flagsCombine)
                .test("Stages are 0..L, L being the stage of the last step", "one stage",
                        DefinitionsTemplateTest::oneStageAlone)
                .test("Stages are 0..L, L being the stage of the last step", "twelve stages",
                        DefinitionsTemplateTest::twelveStages)
                .test("every stage has at least one step", DefinitionsTemplateTest::noStageIsEmpty)
                .test("A PIVOT step is the only step of its stage.", DefinitionsTemplateTest::pivotIsAlone)
                .test("The template is not journaled", DefinitionsTemplateTest::templateIsNotJournaled)
                .test("and survives `crash()`", DefinitionsTemplateTest::templateSurvivesCrash)
                .test("Slots are 0..instances-1.", DefinitionsTemplateTest::slotsEndBelowInstances)
                .test("Each slot has a state (FREE, RUNNING, ABORTING, COMPENSATING, COMMITTED, ROLLED_BACK),"
                        + " a current stage, a pastPivot flag (0 or 1) and, per step: status, attempt, deadline,"
                        + " doneRank and undoRank.", DefinitionsTemplateTest::slotsKeepTheirOwnNumbers)
                .test("A FREE slot has stage 0, pastPivot 0 and every step IDLE with all its numbers 0.",
                        "never used", DefinitionsTemplateTest::neverUsedSlotIsFree)
                .test("A FREE slot has stage 0, pastPivot 0 and every step IDLE with all its numbers 0.",
                        "used before", DefinitionsTemplateTest::usedSlotIsFreeAgain)
                .test("A step is **in flight** when its status is ACTIVE or UNDOING.",
                        DefinitionsTemplateTest::activeAndUndoingAreInFlight)
                .test("The clock C starts at 0.", DefinitionsTemplateTest::clockStartsAtZero);
    }

    private static void indexOfStepCountIsNoStep() {
        SagaRunner x = new SagaRunner(2, 64);
        for (int count = 1; count <= 12; count++) {
            x.defineStep(0, 1, 15, 0);
            Checks.due("stepInfo of the last", x.stepInfo(0, count - 1, 0), SagaRunner.IDLE);
            Checks.due("stepInfo of the next", x.stepInfo(0, count, 0), SagaRunner.REFUSED);
        }
        x.start();
        x.start();
        Checks.due("report of the last", x.report(0, 11, 1, true), SagaRunner.DONE);
        Checks.refused(x, "report of the next", () -> x.report(0, 12, 1, true), SagaRunner.REFUSED);
        Checks.stepIs(x, 1, 0, SagaRunner.ACTIVE, 1, 15, 0, 0);
    }

    private static void thirteenthStepHasNoIndex() {
        SagaRunner x = new SagaRunner(1, 8);
        for (int step = 0; step < 12; step++) {
            Checks.due("defineStep", x.defineStep(0, 1, 1, 0), step);
        }
        Checks.refused(x, "a thirteenth defineStep", () -> x.defineStep(0, 1, 1, 0), SagaRunner.REFUSED);
        Checks.due("stepCount()", x.stepCount(), 12);
    }

    private static void oneToFourAttempts() {
        for (int most = 1; most <= 4; most++) {
            SagaRunner x = new SagaRunner(1, 8);
            x.defineStep(0, most, 15, 0);
            x.start();
            for (int attempt = 1; attempt < most; attempt++) {
                Checks.due("report", x.report(0, 0, attempt, false), SagaRunner.ACTIVE);
            }
            Checks.due("the last of " + most, x.report(0, 0, most, false), SagaRunner.FAILED);
        }
    }

    private static void oneToFifteenTicks() {
        for (int timeout = 1; timeout <= 15; timeout++) {
            SagaRunner x = new SagaRunner(1, 32);
            x.defineStep(0, 1, timeout, 0);
            x.start();
            for (int passed = 1; passed < timeout; passed++) {
                Checks.due("tick(1)", x.tick(1), 0);
            }
            Checks.due("tick " + timeout, x.tick(1), 1);
        }
    }

    private static void flagsCombine() {
        for (int flags = 0; flags <= 3; flags++) {
            SagaRunner x = new SagaRunner(1, 8);
            x.defineStep(0, 1, 15, flags);
            x.defineStep(1, 1, 15, 0);
            x.start();
            x.report(0, 0, 1, true);
            x.report(0, 1, 1, false);
            boolean pivot = flags >= SagaRunner.PIVOT;
            boolean undone = flags == SagaRunner.COMPENSABLE;
            Checks.due("status with flags " + flags, x.stepInfo(0, 0, SagaRunner.INFO_STATUS),
                    undone ? SagaRunner.UNDOING : SagaRunner.DONE);
            Checks.slotIs(x, 0, pivot ? SagaRunner.RUNNING : undone ? SagaRunner.COMPENSATING : SagaRunner.ROLLED_BACK,
                    1, pivot ? 1 : 0);
        }
    }

    private static void oneStageAlone() {
        SagaRunner x = new SagaRunner(1, 16);
        x.defineStep(0, 1, 15, 0);
        x.start();
        Checks.slotIs(x, 0, SagaRunner.RUNNING, 0, 0);
        x.report(0, 0, 1, true);
        Checks.slotIs(x, 0, SagaRunner.COMMITTED, 0, 0);
    }

    private static void twelveStages() {
        SagaRunner x = new SagaRunner(1, 16);
        for (int stage = 0; stage < 12; stage++) {
            x.defineStep(stage, 1, 15, 0);
        }
        x.start();
        for (int stage = 0; stage < 12; stage++) {
            Checks.slotIs(x, 0, SagaRunner.RUNNING, stage, 0);
            x.report(0, stage, 1, true);
        }
        Checks.slotIs(x, 0, SagaRunner.COMMITTED, 11, 0);
    }

    private static void noStageIsEmpty() {
        SagaRunner x = new SagaRunner(1, 8);
        Checks.refused(x, "first stage 1", () -> x.defineStep(1, 1, 1, 0), SagaRunner.REFUSED);
        for (int stage = 0; stage < 11; stage++) {
            int next = stage + 1;
            x.defineStep(stage, 1, 1, 0);
            Checks.refused(x, "a stage left out", () -> x.defineStep(next + 1, 1, 1, 0), SagaRunner.REFUSED);
        }
    }

    private static void pivotIsAlone() {
        SagaRunner x = new SagaRunner(1, 8);
        Checks.due("pivot", x.defineStep(0, 1, 1, SagaRunner.PIVOT), 0);
        Checks.refused(x, "a step after it", () -> x.defineStep(0, 1, 1, 0), SagaRunner.REFUSED);
        Checks.due("plain step", x.defineStep(1, 1, 1, 0), 1);
        Checks.refused(x, "a pivot after it", () -> x.defineStep(1, 1, 1, SagaRunner.PIVOT), SagaRunner.REFUSED);
    }

    private static void templateIsNotJournaled() {
        SagaRunner x = new SagaRunner(1, 8);
        x.defineStep(0, 1, 1, 0);
        Checks.lengthsAre(x, 0, 0);
        Checks.fillWithTicks(x, 8);
        Checks.due("defineStep with a full journal", x.defineStep(0, 1, 1, 0), 1);
        Checks.lengthsAre(x, 8, 0);
    }

    private static void templateSurvivesCrash() {
        SagaRunner x = Slots.defined(1, 16);
        x.start();
        Checks.due("crash()", x.crash(), 1);
        Checks.due("stepCount()", x.stepCount(), 4);
        x.start();
        Checks.stepIs(x, 0, 1, SagaRunner.ACTIVE, 1, 15, 0, 0);
        Checks.stepIs(x, 0, 2, SagaRunner.IDLE, 0, 0, 0, 0);
        x.report(0, 0, 1, true);
        Checks.due("maxAttempts is kept", x.report(0, 1, 1, false), SagaRunner.FAILED);
        Checks.due("COMPENSABLE is kept", x.stepInfo(0, 0, SagaRunner.INFO_STATUS), SagaRunner.UNDOING);
        x.crash();
        x.start();
        Slots.bring(x, 0, SagaRunner.COMMITTED);
        Checks.slotIs(x, 0, SagaRunner.COMMITTED, 2, 1);
    }

    private static void slotsEndBelowInstances() {
        for (int instances = 1; instances <= 8; instances++) {
            SagaRunner x = new SagaRunner(instances, 64);
            x.defineStep(0, 1, 15, 0);
            for (int inst = 0; inst < instances; inst++) {
                Checks.due("instanceInfo", x.instanceInfo(inst, 0), SagaRunner.FREE);
                Checks.due("start()", x.start(), inst);
            }
            Checks.refused(x, "one start() more", x::start, SagaRunner.REFUSED);
            Checks.due("instanceInfo(-1, 0)", x.instanceInfo(-1, 0), SagaRunner.REFUSED);
            Checks.due("instanceInfo(" + instances + ", 0)", x.instanceInfo(instances, 0), SagaRunner.REFUSED);
        }
    }

    private static void slotsKeepTheirOwnNumbers() {
        SagaRunner x = Slots.oneInEachState();
        int[] stages = {0, 0, 0, 0, 2, 0};
        int[] statusOfStepOne = {SagaRunner.IDLE, SagaRunner.ACTIVE, SagaRunner.ACTIVE, SagaRunner.UNDOING,
            SagaRunner.DONE, SagaRunner.UNDONE};
        int[] doneRanks = {0, 0, 0, 1, 2, 1};
        for (int inst = 0; inst < Slots.STATES; inst++) {
            Checks.slotIs(x, inst, inst, stages[inst], inst == SagaRunner.COMMITTED ? 1 : 0);
            boolean inFlight = inst >= SagaRunner.RUNNING && inst <= SagaRunner.COMPENSATING;
            Checks.stepIs(x, inst, 1, statusOfStepOne[inst], inst == SagaRunner.FREE ? 0 : 1, inFlight ? 15 : 0,
                    doneRanks[inst], inst == SagaRunner.ROLLED_BACK ? 1 : 0);
        }
    }

    private static void neverUsedSlotIsFree() {
        SagaRunner x = new SagaRunner(8, 8);
        for (int step = 0; step < 12; step++) {
            x.defineStep(0, 4, 15, SagaRunner.COMPENSABLE);
        }
        for (int inst = 0; inst < 8; inst++) {
            Checks.slotIsFree(x, inst);
        }
        x.start();
        Checks.slotIsFree(x, 1);
    }

    private static void usedSlotIsFreeAgain() {
        SagaRunner released = Slots.defined(1, 64);
        released.start();
        Slots.bring(released, 0, SagaRunner.COMMITTED);
        released.release(0);
        Checks.slotIsFree(released, 0);
        released.start();
        Slots.bring(released, 0, SagaRunner.ROLLED_BACK);
        released.release(0);
        Checks.slotIsFree(released, 0);

        SagaRunner crashed = Slots.oneInEachState();
        crashed.crash();
        for (int inst = 0; inst < Slots.STATES; inst++) {
            Checks.slotIsFree(crashed, inst);
        }
    }

    private static void activeAndUndoingAreInFlight() {
        for (boolean ok : new boolean[] {false, true}) {
            SagaRunner x = Slots.oneInEachState();
            Checks.due("IDLE", x.report(0, 1, 0, ok), SagaRunner.STALE);
            Checks.due("ACTIVE", x.report(1, 1, 1, ok), ok ? SagaRunner.DONE : SagaRunner.FAILED);
            Checks.due("FAILED", x.report(2, 0, 1, ok), SagaRunner.STALE);
            Checks.due("UNDOING", x.report(3, 1, 1, ok), ok ? SagaRunner.UNDONE : SagaRunner.UNDOING);
            Checks.due("DONE", x.report(4, 1, 1, ok), SagaRunner.STALE);
            Checks.due("UNDONE", x.report(5, 1, 1, ok), SagaRunner.STALE);
        }
    }

    private static void clockStartsAtZero() {
        SagaRunner x = new SagaRunner(1, 8);
        Checks.due("clock()", x.clock(), 0);
        x.defineStep(0, 1, 15, 0);
        x.start();
        Checks.due("the first deadline", x.stepInfo(0, 0, SagaRunner.INFO_DEADLINE), 15);
    }
}
