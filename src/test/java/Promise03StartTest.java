import java.util.Arrays;

public final class Promise03StartTest {
    public static void main(String[] args) {
        sentences().run();
    }

    static Sentences sentences() {
        return new Sentences("Promise 3: Starting an instance")
                .test("stepCount is 0 answers REFUSED", Promise03StartTest::noStepIsRefused)
                .test("no FREE slot answers REFUSED", Promise03StartTest::noFreeSlotIsRefused)
                .test("the journal is full answers FULL", Promise03StartTest::fullJournalAnswersFull)
                .test("`start()` considers in order", "no step on a full journal",
                        Promise03StartTest::noStepComesBeforeFull)
                .test("`start()` considers in order", "no FREE slot on a full journal",
                        Promise03StartTest::noFreeSlotComesBeforeFull)
                .test("Otherwise slot is the least FREE index", Promise03StartTest::leastFreeSlotIsTaken)
                .test("the record (J_START, slot, 0, 0) is appended", Promise03StartTest::recordIsAppended)
                .test("the slot becomes RUNNING with stage 0 and pastPivot 0", Promise03StartTest::usedSlotStartsAnew)
                .test("ISSUE is applied to each step of stage 0 in ascending index", "all twelve",
                        Promise03StartTest::twelveStepsAreIssued)
                .test("ISSUE is applied to each step of stage 0 in ascending index", "one alone",
                        Promise03StartTest::oneStepIsIssued)
                .test("The slot is answered.", Promise03StartTest::slotIsAnswered)
                .test("From then on `defineStep` always answers REFUSED.",
                        Promise03StartTest::defineStepIsRefusedFromThenOn)
                .test("Other slots, the clock and durableLength do not change.", Promise03StartTest::othersDoNotChange);
    }

    private static void refused(SagaRunner x, int want) {
        Checks.refused(x, "start()", x::start, want);
    }

    private static SagaRunner oneStep(int instances, int capacity) {
        SagaRunner x = new SagaRunner(instances, capacity);
        x.defineStep(0, 1, 15, 0);
        return x;
    }

    private static void noStepIsRefused() {
        SagaRunner x = new SagaRunner(8, 8);
        refused(x, SagaRunner.REFUSED);
        x.defineStep(1, 1, 1, 0);
        refused(x, SagaRunner.REFUSED);
        x.defineStep(0, 1, 1, 0);
        Checks.due("start() with one step", x.start(), 0);
    }

    private static void noFreeSlotIsRefused() {
        for (int instances = 1; instances <= 8; instances++) {
            SagaRunner x = oneStep(instances, 64);
            for (int slot = 0; slot < instances; slot++) {
                Checks.due("start()", x.start(), slot);
            }
            refused(x, SagaRunner.REFUSED);
        }
        SagaRunner x = Slots.oneInEachState();
        int[] free = {0, 6, 7};
        for (int slot : free) {
            Checks.due("start()", x.start(), slot);
        }
        refused(x, SagaRunner.REFUSED);
    }

    private static void fullJournalAnswersFull() {
        SagaRunner x = oneStep(2, 8);
        for (int i = 0; i < 7; i++) {
            x.tick(1);
        }
        Checks.due("start() as the last record", x.start(), 0);
        refused(x, SagaRunner.FULL);

        SagaRunner never = oneStep(2, 8);
        Checks.fillWithTicks(never, 8);
        refused(never, SagaRunner.FULL);
        Checks.slotIsFree(never, 0);
    }

    private static void noStepComesBeforeFull() {
        SagaRunner x = new SagaRunner(1, 8);
        Checks.fillWithTicks(x, 8);
        refused(x, SagaRunner.REFUSED);
    }

    private static void noFreeSlotComesBeforeFull() {
        SagaRunner x = oneStep(1, 8);
        x.start();
        Checks.fillWithTicks(x, 8);
        refused(x, SagaRunner.REFUSED);
    }

    private static void leastFreeSlotIsTaken() {
        SagaRunner x = oneStep(8, 64);
        for (int slot = 0; slot < 8; slot++) {
            Checks.due("start()", x.start(), slot);
        }
        int[] freed = {7, 2, 5, 0};
        for (int slot : freed) {
            x.report(slot, 0, 1, true);
            x.release(slot);
        }
        Arrays.sort(freed);
        for (int slot : freed) {
            Checks.due("start()", x.start(), slot);
        }
        refused(x, SagaRunner.REFUSED);
    }

    private static void recordIsAppended() {
        SagaRunner x = new SagaRunner(8, 32);
        x.defineStep(0, 4, 15, 0);
        for (int slot = 0; slot < 8; slot++) {
            x.start();
            Checks.recordIs(x, slot, SagaRunner.J_START, slot, 0, 0);
            Checks.due("journalLength()", x.journalLength(), slot + 1);
        }
    }

    private static void usedSlotStartsAnew() {
        for (int ended = SagaRunner.COMMITTED; ended <= SagaRunner.ROLLED_BACK; ended++) {
            SagaRunner x = Slots.defined(1, 32);
            x.start();
            Slots.bring(x, 0, ended);
            x.release(0);
            Checks.due("start()", x.start(), 0);
            Checks.slotIs(x, 0, SagaRunner.RUNNING, 0, 0);
            Checks.stepIs(x, 0, 0, SagaRunner.ACTIVE, 1, 15, 0, 0);
            Checks.stepIs(x, 0, 1, SagaRunner.ACTIVE, 1, 15, 0, 0);
            Checks.stepIs(x, 0, 2, SagaRunner.IDLE, 0, 0, 0, 0);
            Checks.stepIs(x, 0, 3, SagaRunner.IDLE, 0, 0, 0, 0);
        }
    }

    private static void twelveStepsAreIssued() {
        SagaRunner x = new SagaRunner(2, 32);
        for (int step = 0; step < 12; step++) {
            x.defineStep(0, 1, 1 + step, 0);
        }
        x.tick(16);
        x.start();
        for (int step = 0; step < 12; step++) {
            Checks.stepIs(x, 0, step, SagaRunner.ACTIVE, 1, 17 + step, 0, 0);
        }
    }

    private static void oneStepIsIssued() {
        SagaRunner x = new SagaRunner(1, 32);
        for (int step = 0; step < 12; step++) {
            x.defineStep(step, 1, 1, 0);
        }
        x.start();
        Checks.stepIs(x, 0, 0, SagaRunner.ACTIVE, 1, 1, 0, 0);
        for (int step = 1; step < 12; step++) {
            Checks.stepIs(x, 0, step, SagaRunner.IDLE, 0, 0, 0, 0);
        }
    }

    private static void slotIsAnswered() {
        SagaRunner x = oneStep(8, 8);
        for (int slot = 0; slot < 8; slot++) {
            Checks.due("start()", x.start(), slot);
            Checks.stateIs(x, slot, SagaRunner.RUNNING);
        }
    }

    private static void defineStepIsRefusedFromThenOn() {
        SagaRunner x = oneStep(1, 16);
        x.start();
        for (int stage = 0; stage <= 1; stage++) {
            int next = stage;
            Checks.refused(x, "defineStep", () -> x.defineStep(next, 1, 1, 0), SagaRunner.REFUSED);
        }
        x.report(0, 0, 1, true);
        x.release(0);
        Checks.refused(x, "defineStep after release", () -> x.defineStep(1, 1, 1, 0), SagaRunner.REFUSED);
        x.crash();
        Checks.refused(x, "defineStep after crash", () -> x.defineStep(1, 1, 1, 0), SagaRunner.REFUSED);
    }

    private static void othersDoNotChange() {
        SagaRunner x = Slots.oneInEachState();
        x.tick(3);
        x.flush();
        x.tick(2);
        int[][] before = Slots.answers(x);
        Checks.due("start()", x.start(), 0);
        Slots.onlyChanged(0, before, x);
        Checks.due("clock()", x.clock(), 5);
        Checks.lengthsAre(x, 24, 22);
    }
}
