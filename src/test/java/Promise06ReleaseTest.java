public final class Promise06ReleaseTest {
    public static void main(String[] args) {
        sentences().run();
    }

    static Sentences sentences() {
        String unfinished = "the state of inst is neither COMMITTED nor ROLLED_BACK answers REFUSED";
        String order = "`release(inst)` considers in order";
        String freed = "the slot becomes FREE as defined above (stage 0, pastPivot 0, every step IDLE with all numbers"
                + " 0)";
        return new Sentences("Promise 6: Releasing a finished slot")
                .test("inst outside 0..instances-1 answers REFUSED", Promise06ReleaseTest::outsideIsRefused)
                .test(unfinished, "FREE", () -> unfinishedIsRefused(SagaRunner.FREE))
                .test(unfinished, "RUNNING", () -> unfinishedIsRefused(SagaRunner.RUNNING))
                .test(unfinished, "ABORTING", () -> unfinishedIsRefused(SagaRunner.ABORTING))
                .test(unfinished, "COMPENSATING", () -> unfinishedIsRefused(SagaRunner.COMPENSATING))
                .test("the journal is full answers FULL", Promise06ReleaseTest::fullJournalAnswersFull)
                .test(order, "inst outside on a full journal", Promise06ReleaseTest::outsideComesBeforeFull)
                .test(order, "an unfinished slot on a full journal", Promise06ReleaseTest::unfinishedComesBeforeFull)
                .test("Otherwise the record (J_RELEASE, inst, 0, 0) is appended",
                        Promise06ReleaseTest::recordIsAppended)
                .test(freed, "COMMITTED", () -> finishedIsFreed(SagaRunner.COMMITTED))
                .test(freed, "ROLLED_BACK", () -> finishedIsFreed(SagaRunner.ROLLED_BACK))
                .test("Answers ACCEPTED.", Promise06ReleaseTest::acceptedIsAnsweredOnce)
                .test("The clock, other slots and durableLength do not change.",
                        Promise06ReleaseTest::othersDoNotChange);
    }

    private static void refused(SagaRunner x, int inst, int want) {
        Checks.refused(x, "release(" + inst + ")", () -> x.release(inst), want);
    }

    private static SagaRunner allCommitted(int instances, int capacity) {
        SagaRunner x = new SagaRunner(instances, capacity);
        x.defineStep(0, 1, 15, 0);
        for (int inst = 0; inst < instances; inst++) {
            x.start();
            x.report(inst, 0, 1, true);
        }
        return x;
    }

    private static void outsideIsRefused() {
        for (int instances = 1; instances <= 8; instances++) {
            SagaRunner x = allCommitted(instances, 64);
            for (int inst : Checks.outside(0, instances - 1)) {
                refused(x, inst, SagaRunner.REFUSED);
            }
            Checks.due("release of the first", x.release(0), SagaRunner.ACCEPTED);
            if (instances > 1) {
                Checks.due("release of the last", x.release(instances - 1), SagaRunner.ACCEPTED);
            }
        }
    }

    private static void unfinishedIsRefused(int state) {
        SagaRunner x = Slots.oneInEachState();
        Checks.stateIs(x, state, state);
        refused(x, state, SagaRunner.REFUSED);
    }

    private static void fullJournalAnswersFull() {
        SagaRunner x = allCommitted(2, 8);
        Checks.fillWithTicks(x, 7);
        Checks.due("release(0) as the last record", x.release(0), SagaRunner.ACCEPTED);
        refused(x, 1, SagaRunner.FULL);

        SagaRunner rolledBack = new SagaRunner(1, 8);
        rolledBack.defineStep(0, 1, 15, 0);
        rolledBack.start();
        rolledBack.report(0, 0, 1, false);
        Checks.fillWithTicks(rolledBack, 8);
        refused(rolledBack, 0, SagaRunner.FULL);
    }

    private static void outsideComesBeforeFull() {
        SagaRunner x = allCommitted(2, 8);
        Checks.fillWithTicks(x, 8);
        for (int inst : Checks.outside(0, 1)) {
            refused(x, inst, SagaRunner.REFUSED);
        }
    }

    private static void unfinishedComesBeforeFull() {
        for (int state = SagaRunner.FREE; state <= SagaRunner.COMPENSATING; state++) {
            SagaRunner x = Slots.oneInEachState();
            for (int i = x.journalLength(); i < 64; i++) {
                // A late tick would end what is in flight, so the journal is filled with a failing undo.
                x.report(3, 1, x.stepInfo(3, 1, SagaRunner.INFO_ATTEMPT), false);
            }
            Checks.due("tick(1)", x.tick(1), SagaRunner.FULL);
            Checks.stateIs(x, state, state);
            refused(x, state, SagaRunner.REFUSED);
        }
    }

    private static void recordIsAppended() {
        SagaRunner x = allCommitted(8, 64);
        for (int inst = 7; inst >= 0; inst--) {
            x.release(inst);
            Checks.due("journalLength()", x.journalLength(), 24 - inst);
            Checks.recordIs(x, 23 - inst, SagaRunner.J_RELEASE, inst, 0, 0);
        }
    }

    private static void finishedIsFreed(int state) {
        SagaRunner x = Slots.oneInEachState();
        Checks.stateIs(x, state, state);
        Checks.due("release(" + state + ")", x.release(state), SagaRunner.ACCEPTED);
        Checks.slotIsFree(x, state);
        Checks.due("start() in the other FREE slot", x.start(), 0);
        Checks.due("start() in the slot", x.start(), state);
        Checks.slotIs(x, state, SagaRunner.RUNNING, 0, 0);
    }

    private static void acceptedIsAnsweredOnce() {
        SagaRunner x = allCommitted(1, 8);
        Checks.due("release(0)", x.release(0), SagaRunner.ACCEPTED);
        refused(x, 0, SagaRunner.REFUSED);
    }

    private static void othersDoNotChange() {
        for (int inst = SagaRunner.COMMITTED; inst <= SagaRunner.ROLLED_BACK; inst++) {
            SagaRunner x = Slots.oneInEachState();
            x.tick(2);
            x.flush();
            x.tick(1);
            int[][] before = Slots.answers(x);
            x.release(inst);
            Slots.onlyChanged(inst, before, x);
            Checks.due("clock()", x.clock(), 3);
            Checks.lengthsAre(x, 24, 22);
        }
    }
}
