public final class Promise09ClockTest {
    public static void main(String[] args) {
        sentences().run();
    }

    static Sentences sentences() {
        return new Sentences("Promise 9: The clock")
                .test("`clock()` answers C and changes nothing.", Promise09ClockTest::clockChangesNothing)
                .test("C only grows through accepted ticks", "refused ticks",
                        Promise09ClockTest::refusedTicksMoveNothing)
                .test("C only grows through accepted ticks", "other calls", Promise09ClockTest::otherCallsMoveNothing)
                .test("(and through replayed J_TICK records)", Promise09ClockTest::replayedTicksCount)
                .test("returns to 0 only at the start of `crash()`", Promise09ClockTest::crashReturnsToZero)
                .test("Since each tick adds at most 16 and the journal holds at most 128 records, C never exceeds 2048",
                        Promise09ClockTest::greatestClock)
                .test("no int wrap-around occurs in C or in any deadline", Promise09ClockTest::greatestDeadlines);
    }

    private static void clockChangesNothing() {
        SagaRunner x = Slots.oneInEachState();
        x.tick(4);
        int[] before = Checks.answers(x);
        Checks.due("clock()", x.clock(), 4);
        Checks.due("clock() again", x.clock(), 4);
        Checks.unchanged("clock()", before, x);
    }

    private static void refusedTicksMoveNothing() {
        SagaRunner x = new SagaRunner(1, 8);
        x.tick(3);
        for (int n : Checks.outside(1, 16)) {
            Checks.due("tick(" + n + ")", x.tick(n), SagaRunner.REFUSED);
            Checks.due("clock()", x.clock(), 3);
        }
        Checks.fillWithTicks(x, 8);
        Checks.due("tick(16)", x.tick(16), SagaRunner.FULL);
        Checks.due("clock()", x.clock(), 10);
    }

    private static void otherCallsMoveNothing() {
        SagaRunner x = new SagaRunner(1, 16);
        x.tick(5);
        x.defineStep(0, 2, 5, 0);
        x.start();
        x.report(0, 0, 1, false);
        x.report(0, 0, 2, true);
        x.release(0);
        x.flush();
        Checks.due("clock()", x.clock(), 5);
    }

    private static void replayedTicksCount() {
        SagaRunner x = new SagaRunner(1, 16);
        x.tick(16);
        x.tick(1);
        x.flush();
        x.tick(2);
        x.crash();
        Checks.due("clock()", x.clock(), 17);
        x.crash();
        Checks.due("clock() after a second crash", x.clock(), 17);
    }

    private static void crashReturnsToZero() {
        SagaRunner x = new SagaRunner(1, 16);
        x.defineStep(0, 1, 5, 0);
        x.start();
        x.flush();
        x.tick(3);
        x.crash();
        Checks.due("clock()", x.clock(), 0);
        x.tick(2);
        Checks.due("clock()", x.clock(), 2);
        Checks.stepIs(x, 0, 0, SagaRunner.ACTIVE, 1, 5, 0, 0);
    }

    private static void greatestClock() {
        SagaRunner x = new SagaRunner(1, 128);
        for (int i = 1; i <= 128; i++) {
            Checks.due("tick(16)", x.tick(16), 0);
            Checks.due("clock()", x.clock(), 16 * i);
        }
        Checks.due("tick(16)", x.tick(16), SagaRunner.FULL);
        Checks.due("clock()", x.clock(), 2048);
        x.flush();
        x.crash();
        Checks.due("clock() after crash", x.clock(), 2048);
        Checks.due("tick(1)", x.tick(1), SagaRunner.FULL);
    }

    private static void greatestDeadlines() {
        SagaRunner late = afterTicks(127);
        Checks.due("start() as the last record", late.start(), 0);
        Checks.stepIs(late, 0, 0, SagaRunner.ACTIVE, 1, 2047, 0, 0);

        SagaRunner retried = afterTicks(126);
        retried.start();
        Checks.due("tick(16) as the last record", retried.tick(16), 1);
        Checks.stepIs(retried, 0, 0, SagaRunner.ACTIVE, 2, 2047, 0, 0);
        retried.flush();
        retried.crash();
        Checks.stepIs(retried, 0, 0, SagaRunner.ACTIVE, 2, 2047, 0, 0);

        SagaRunner pastPivot = new SagaRunner(1, 128);
        pastPivot.defineStep(0, 1, 15, SagaRunner.PIVOT);
        pastPivot.defineStep(1, 1, 15, 0);
        pastPivot.start();
        pastPivot.report(0, 0, 1, true);
        for (int i = 1; i <= 126; i++) {
            Checks.due("tick(16)", pastPivot.tick(16), 1);
            Checks.stepIs(pastPivot, 0, 1, SagaRunner.ACTIVE, 1 + i, 16 * i + 15, 0, 0);
        }
    }

    private static SagaRunner afterTicks(int ticks) {
        SagaRunner x = new SagaRunner(1, 128);
        x.defineStep(0, 2, 15, 0);
        for (int i = 0; i < ticks; i++) {
            x.tick(16);
        }
        return x;
    }
}
