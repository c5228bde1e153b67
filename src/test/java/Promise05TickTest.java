public final class Promise05TickTest {
    public static void main(String[] args) {
        sentences().run();
    }

    static Sentences sentences() {
        String deadline = "if it is in flight and its deadline <= C, the FAIL rule is applied to it (a timeout)";
        String order = "slots are visited in ascending index and, within a slot, steps in ascending index";
        String once = "each step is examined once, after the effects of the earlier ones";
        return new Sentences("Promise 5: Letting time pass")
                .test("n outside 1..16 answers REFUSED", Promise05TickTest::outsideIsRefused)
                .test("the journal is full answers FULL", Promise05TickTest::fullJournalAnswersFull)
                .test("`tick(n)` considers in order", "a wrong n on a full journal",
                        Promise05TickTest::refusedComesBeforeFull)
                .test("Otherwise the record (J_TICK, n, 0, 0) is appended", Promise05TickTest::recordIsAppended)
                .test("C grows by n", "1 to 16", Promise05TickTest::clockGrows)
                .test(order, "the last slot and step", Promise05TickTest::allSlotsAndStepsAreVisited)
                .test(order, "a step that aborts", Promise05TickTest::earlierStepsActFirst)
                .test(once, "many deadlines in one tick", Promise05TickTest::oneTickIsOneTimeoutOfAStep)
                .test(once, "an undo that begins in the tick", Promise05TickTest::undoBegunInATickDoesNotTimeOutInIt)
                .test(deadline, "one tick before", Promise05TickTest::nothingBeforeTheDeadline)
                .test(deadline, "at the deadline", Promise05TickTest::timeoutAtTheDeadline)
                .test(deadline, "after the deadline", Promise05TickTest::timeoutAfterTheDeadline)
                .test(deadline, "not in flight", Promise05TickTest::noTimeoutOutOfFlight)
                .test(deadline, "a compensation", Promise05TickTest::compensationsTimeOut)
                .test("The answer is the number of timeouts applied (0 or more).", "none",
                        Promise05TickTest::noTimeoutAnswersZero)
                .test("The answer is the number of timeouts applied (0 or more).", "as many as can be",
                        Promise05TickTest::ninetySixTimeouts)
                .test("durableLength does not change.", Promise05TickTest::durableLengthStays);
    }

    private static void refused(SagaRunner x, int n, int want) {
        Checks.refused(x, "tick(" + n + ")", () -> x.tick(n), want);
    }

    private static SagaRunner started(int maxAttempts, int timeout) {
        SagaRunner x = new SagaRunner(1, 64);
        x.defineStep(0, maxAttempts, timeout, 0);
        x.start();
        return x;
    }

    private static void outsideIsRefused() {
        SagaRunner x = started(1, 1);
        for (int n : Checks.outside(1, 16)) {
            refused(x, n, SagaRunner.REFUSED);
        }
        Checks.due("tick(1)", x.tick(1), 1);
        Checks.due("tick(16)", x.tick(16), 0);
        Checks.due("clock()", x.clock(), 17);
    }

    private static void fullJournalAnswersFull() {
        SagaRunner x = new SagaRunner(1, 8);
        x.defineStep(0, 1, 15, 0);
        x.start();
        Checks.fillWithTicks(x, 8);
        refused(x, 1, SagaRunner.FULL);
        refused(x, 16, SagaRunner.FULL);
        Checks.due("clock()", x.clock(), 7);
    }

    private static void refusedComesBeforeFull() {
        SagaRunner x = new SagaRunner(1, 8);
        Checks.fillWithTicks(x, 8);
        for (int n : Checks.outside(1, 16)) {
            refused(x, n, SagaRunner.REFUSED);
        }
    }

    private static void recordIsAppended() {
        SagaRunner x = new SagaRunner(1, 16);
        for (int n = 1; n <= 16; n++) {
            x.tick(n);
            Checks.due("journalLength()", x.journalLength(), n);
            Checks.recordIs(x, n - 1, SagaRunner.J_TICK, n, 0, 0);
        }
    }

    private static void clockGrows() {
        for (int n = 1; n <= 16; n++) {
            SagaRunner x = new SagaRunner(1, 8);
            x.tick(n);
            Checks.due("clock()", x.clock(), n);
            x.tick(n);
            Checks.due("clock()", x.clock(), 2 * n);
        }
    }

    private static SagaRunner greatest() {
        SagaRunner x = new SagaRunner(8, 64);
        for (int step = 0; step < 12; step++) {
            x.defineStep(0, 2, 15, 1);
        }
        for (int slot = 0; slot < 8; slot++) {
            x.start();
        }
        return x;
    }

    private static void allSlotsAndStepsAreVisited() {
        SagaRunner x = greatest();
        x.tick(15);
        for (int slot = 0; slot < 8; slot++) {
            for (int step = 0; step < 12; step++) {
                Checks.stepIs(x, slot, step, SagaRunner.ACTIVE, 2, 30, 0, 0);
            }
        }
    }

    private static void earlierStepsActFirst() {
        SagaRunner x = new SagaRunner(1, 32);
        x.defineStep(0, 2, 5, 0);
        x.defineStep(0, 1, 5, 0);
        x.defineStep(0, 4, 5, 0);
        x.start();
        Checks.due("tick(5)", x.tick(5), 3);
        // Step 0 is retried while RUNNING; step 1 aborts; step 2, examined later, is not retried.
        Checks.stepIs(x, 0, 0, SagaRunner.ACTIVE, 2, 10, 0, 0);
        Checks.stepIs(x, 0, 1, SagaRunner.FAILED, 1, 0, 0, 0);
        Checks.stepIs(x, 0, 2, SagaRunner.FAILED, 1, 0, 0, 0);
        Checks.slotIs(x, 0, SagaRunner.ABORTING, 0, 0);
        Checks.due("tick(5)", x.tick(5), 1);
        Checks.slotIs(x, 0, SagaRunner.ROLLED_BACK, 0, 0);
    }

    private static void oneTickIsOneTimeoutOfAStep() {
        SagaRunner x = started(4, 1);
        Checks.due("tick(16)", x.tick(16), 1);
        Checks.stepIs(x, 0, 0, SagaRunner.ACTIVE, 2, 17, 0, 0);
        Checks.due("journalLength()", x.journalLength(), 2);
    }

    private static void undoBegunInATickDoesNotTimeOutInIt() {
        for (int failing = 0; failing < 2; failing++) {
            int undone = 1 - failing;
            SagaRunner x = new SagaRunner(1, 32);
            x.defineStep(0, 1, 1, 1);
            x.defineStep(0, 1, 1, 1);
            x.start();
            x.report(0, undone, 1, true);
            Checks.due("tick(16)", x.tick(16), 1);
            Checks.slotIs(x, 0, SagaRunner.COMPENSATING, 0, 0);
            Checks.stepIs(x, 0, undone, SagaRunner.UNDOING, 1, 17, 1, 0);
        }
    }

    private static void nothingBeforeTheDeadline() {
        for (int timeout = 2; timeout <= 15; timeout++) {
            SagaRunner x = started(2, timeout);
            Checks.due("tick(" + (timeout - 1) + ")", x.tick(timeout - 1), 0);
            Checks.stepIs(x, 0, 0, SagaRunner.ACTIVE, 1, timeout, 0, 0);
        }
    }

    private static void timeoutAtTheDeadline() {
        for (int timeout = 1; timeout <= 15; timeout++) {
            SagaRunner x = started(2, timeout);
            Checks.due("tick(" + timeout + ")", x.tick(timeout), 1);
            Checks.stepIs(x, 0, 0, SagaRunner.ACTIVE, 2, 2 * timeout, 0, 0);
        }
    }

    private static void timeoutAfterTheDeadline() {
        for (int timeout = 1; timeout <= 15; timeout++) {
            SagaRunner x = started(2, timeout);
            Checks.due("tick(" + (timeout + 1) + ")", x.tick(timeout + 1), 1);
            Checks.stepIs(x, 0, 0, SagaRunner.ACTIVE, 2, 2 * timeout + 1, 0, 0);
        }
    }

    private static void noTimeoutOutOfFlight() {
        SagaRunner x = Slots.oneInEachState();
        Checks.due("tick(15)", x.tick(15), 4); // two of the RUNNING, one each of the ABORTING and the COMPENSATING
        Checks.slotIsFree(x, 0);
        Checks.stepIs(x, 1, 2, SagaRunner.IDLE, 0, 0, 0, 0);
        Checks.stepIs(x, 2, 0, SagaRunner.FAILED, 1, 0, 0, 0);
        Checks.stepIs(x, 4, 0, SagaRunner.DONE, 1, 0, 1, 0);
        Checks.stepIs(x, 5, 1, SagaRunner.UNDONE, 1, 0, 1, 1);
    }

    private static void compensationsTimeOut() {
        SagaRunner x = new SagaRunner(1, 64);
        x.defineStep(0, 1, 2, 1);
        x.defineStep(1, 1, 1, 0);
        x.start();
        x.report(0, 0, 1, true);
        Checks.due("tick(1)", x.tick(1), 1);
        for (int attempt = 1; attempt <= 10; attempt++) {
            Checks.stepIs(x, 0, 0, SagaRunner.UNDOING, attempt, 1 + 2 * attempt, 1, 0);
            Checks.due("tick(1)", x.tick(1), 0);
            Checks.due("tick(1)", x.tick(1), 1);
        }
        Checks.slotIs(x, 0, SagaRunner.COMPENSATING, 1, 0);
    }

    private static void noTimeoutAnswersZero() {
        SagaRunner x = new SagaRunner(1, 16);
        Checks.due("tick(16) without a step", x.tick(16), 0);
        x.defineStep(0, 1, 15, 0);
        Checks.due("tick(16) without a start", x.tick(16), 0);
        x.start();
        Checks.due("tick(14)", x.tick(14), 0);
        x.report(0, 0, 1, true);
        Checks.due("tick(16) once COMMITTED", x.tick(16), 0);
    }

    private static void ninetySixTimeouts() {
        SagaRunner x = greatest();
        Checks.due("tick(14)", x.tick(14), 0);
        Checks.due("tick(1)", x.tick(1), 96);
        Checks.due("tick(16)", x.tick(16), 96);
        for (int slot = 0; slot < 8; slot++) {
            Checks.slotIs(x, slot, SagaRunner.ROLLED_BACK, 0, 0);
            Checks.stepIs(x, slot, 11, SagaRunner.FAILED, 2, 0, 0, 0);
        }
        Checks.due("tick(16)", x.tick(16), 0);
    }

    private static void durableLengthStays() {
        SagaRunner x = started(1, 1);
        Checks.due("tick(16)", x.tick(16), 1);
        Checks.lengthsAre(x, 2, 0);
        x.flush();
        x.tick(1);
        Checks.lengthsAre(x, 3, 2);
    }
}
