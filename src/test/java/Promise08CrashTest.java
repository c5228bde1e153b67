public final class Promise08CrashTest {
    public static void main(String[] args) {
        sentences().run();
    }

    static Sentences sentences() {
        Sentences all = new Sentences("Promise 8: Crash and recovery");
        dropping(all);
        replaying(all);
        return all;
    }

    private static void dropping(Sentences all) {
        all.test("`crash()` is never refused.", "a new object", Promise08CrashTest::newObjectCrashes)
                .test("`crash()` is never refused.", "a full journal", Promise08CrashTest::fullJournalCrashes)
                .test("It answers journalLength - durableLength, computed first (0 or more).", "from 0 to 128",
                        Promise08CrashTest::lostRecordsAreAnswered)
                .test("every non-durable record is dropped (journalLength becomes durableLength)",
                        Promise08CrashTest::recordsAreDropped)
                .test("C is set to 0 and every slot becomes FREE", Promise08CrashTest::nothingDurableLeavesNothing);
    }

    private static void replaying(Sentences all) {
        String kept = "The template, the fact that a `start()` was ever accepted, and the capacities are kept.";
        String after = "After any `crash()`, every getter answers as it would on a fresh object built with the same"
                + " constructor arguments and the same accepted `defineStep` calls, to which exactly the calls recorded"
                + " in the kept records were then made, followed by one `flush()`.";
        all.test("Then the kept records are replayed in ascending order, appending nothing", "a full journal",
                        Promise08CrashTest::fullJournalIsReplayed)
                .test("J_START does what an accepted `start()` does after its conditions",
                        Promise08CrashTest::startIsReplayed)
                .test("J_OK / J_FAIL with (a, b, c) does what `report(a, b, c, true / false)` does after its"
                        + " conditions",
                        Promise08CrashTest::reportsAreReplayed)
                .test("J_TICK with a does what `tick(a)` does after its conditions",
                        Promise08CrashTest::ticksAreReplayed)
                .test("J_RELEASE with a does what `release(a)` does after its conditions",
                        Promise08CrashTest::releaseIsReplayed)
                .test(kept, "the template", Promise08CrashTest::templateIsKept)
                .test(kept, "the start", Promise08CrashTest::templateStaysClosed)
                .test(kept, "the capacities", Promise08CrashTest::capacitiesAreKept)
                .test(after, "any number of kept records", Promise08CrashTest::everyDurablePrefixIsRebuilt)
                .test(after, "a template defined between ticks", Promise08CrashTest::ticksBeforeTheTemplate)
                .test("a `crash()` made directly after a `flush()` answers 0 and leaves the answer of every getter"
                        + " (stepCount, clock, instanceInfo, stepInfo, journalLength, durableLength, journalField) for"
                        + " every argument as it was just after that flush",
                        Promise08CrashTest::crashAfterFlushKeepsAll);
    }

    private static void newObjectCrashes() {
        SagaRunner x = new SagaRunner(2, 16);
        int[] before = Checks.answers(x);
        Checks.due("crash()", x.crash(), 0);
        Checks.unchanged("crash() of a new object", before, x);
        Checks.due("second crash()", x.crash(), 0);
    }

    private static void fullJournalCrashes() {
        SagaRunner x = new SagaRunner(1, 8);
        x.tick(2);
        x.flush();
        Checks.fillWithTicks(x, 8);
        Checks.due("tick(1)", x.tick(1), SagaRunner.FULL);
        Checks.due("crash()", x.crash(), 7);
        Checks.due("clock()", x.clock(), 2);
        Checks.due("second crash()", x.crash(), 0);
        Checks.due("tick(1) with room again", x.tick(1), 0);
        Checks.fillWithTicks(x, 8);
    }

    private static void lostRecordsAreAnswered() {
        for (int lost = 0; lost <= 128; lost++) {
            SagaRunner x = new SagaRunner(1, 128);
            for (int i = lost; i < 128; i++) {
                x.tick(1);
            }
            x.flush();
            Checks.fillWithTicks(x, 128);
            Checks.due("crash()", x.crash(), lost);
            Checks.lengthsAre(x, 128 - lost, 128 - lost);
        }
    }

    private static void recordsAreDropped() {
        SagaRunner x = new SagaRunner(1, 8);
        x.tick(1);
        x.flush();
        x.tick(2);
        x.tick(3);
        x.crash();
        Checks.lengthsAre(x, 1, 1);
        Checks.due("journalField(1, 0)", x.journalField(1, 0), SagaRunner.REFUSED);
        x.tick(4);
        Checks.recordIs(x, 0, SagaRunner.J_TICK, 1, 0, 0);
        Checks.recordIs(x, 1, SagaRunner.J_TICK, 4, 0, 0);
        Checks.lengthsAre(x, 2, 1);
        Checks.due("clock()", x.clock(), 5);
        Checks.due("crash()", x.crash(), 1);
        Checks.due("clock()", x.clock(), 1);
    }

    private static void nothingDurableLeavesNothing() {
        SagaRunner x = Slots.oneInEachState();
        x.tick(16);
        Checks.due("crash()", x.crash(), 22);
        Checks.due("clock()", x.clock(), 0);
        Checks.lengthsAre(x, 0, 0);
        for (int inst = 0; inst < Slots.STATES; inst++) {
            Checks.slotIsFree(x, inst);
        }
        Checks.due("start()", x.start(), 0);
        Checks.stepIs(x, 0, 0, SagaRunner.ACTIVE, 1, 15, 0, 0);
    }

    private static void fullJournalIsReplayed() {
        for (int capacity = 8; capacity <= 128; capacity += 40) {
            SagaRunner x = new SagaRunner(1, capacity);
            x.defineStep(0, 1, 15, SagaRunner.PIVOT);
            x.defineStep(1, 1, 3, 0);
            x.start();
            x.report(0, 0, 1, true);
            Checks.fillWithTicks(x, capacity);
            x.flush();
            int[] before = Checks.answers(x);
            Checks.due("crash()", x.crash(), 0);
            Checks.unchanged("crash() with a full durable journal", before, x);
            Checks.due("clock()", x.clock(), capacity - 2);
            Checks.due("tick(1)", x.tick(1), SagaRunner.FULL);
        }
    }

    private static void startIsReplayed() {
        SagaRunner x = Slots.defined(8, 16);
        x.tick(2);
        for (int inst = 0; inst < 8; inst++) {
            x.start();
        }
        x.flush();
        x.tick(16);
        Checks.due("crash()", x.crash(), 1);
        for (int inst = 0; inst < 8; inst++) {
            Checks.slotIs(x, inst, SagaRunner.RUNNING, 0, 0);
            Checks.stepIs(x, inst, 0, SagaRunner.ACTIVE, 1, 17, 0, 0);
            Checks.stepIs(x, inst, 2, SagaRunner.IDLE, 0, 0, 0, 0);
        }
    }

    private static void reportsAreReplayed() {
        SagaRunner x = new SagaRunner(2, 16);
        x.defineStep(0, 2, 5, 1);
        x.defineStep(1, 1, 6, 1);
        x.start();
        x.start();
        x.report(1, 0, 1, false);
        x.report(1, 0, 2, true);
        x.report(1, 1, 1, false);
        x.report(1, 0, 1, false);
        x.flush();
        x.report(1, 0, 2, true);
        Checks.due("crash()", x.crash(), 1);
        Checks.slotIs(x, 0, SagaRunner.RUNNING, 0, 0);
        Checks.slotIs(x, 1, SagaRunner.COMPENSATING, 1, 0);
        Checks.stepIs(x, 0, 0, SagaRunner.ACTIVE, 1, 5, 0, 0);
        Checks.stepIs(x, 1, 0, SagaRunner.UNDOING, 2, 5, 1, 0);
        Checks.stepIs(x, 1, 1, SagaRunner.FAILED, 1, 0, 0, 0);
        Checks.due("the lost report again", x.report(1, 0, 2, true), SagaRunner.UNDONE);
    }

    private static void ticksAreReplayed() {
        SagaRunner x = new SagaRunner(1, 16);
        x.defineStep(0, 3, 4, 0);
        x.start();
        x.tick(3);
        x.tick(16);
        x.flush();
        x.tick(16);
        Checks.due("crash()", x.crash(), 1);
        Checks.due("clock()", x.clock(), 19);
        Checks.stepIs(x, 0, 0, SagaRunner.ACTIVE, 2, 23, 0, 0);
    }

    private static void releaseIsReplayed() {
        SagaRunner x = new SagaRunner(2, 16);
        x.defineStep(0, 1, 5, 0);
        x.start();
        x.start();
        x.report(1, 0, 1, true);
        x.report(0, 0, 1, false);
        x.release(0);
        x.release(1);
        x.flush();
        x.start();
        Checks.due("crash()", x.crash(), 1);
        Checks.slotIsFree(x, 0);
        Checks.slotIsFree(x, 1);
        Checks.due("start()", x.start(), 0);
    }

    private static void templateIsKept() {
        SagaRunner x = new SagaRunner(1, 16);
        for (int step = 0; step < 12; step++) {
            x.defineStep(step / 6, 1 + step % 4, 1 + step, 1);
            x.crash();
            Checks.due("stepCount()", x.stepCount(), step + 1);
        }
        x.start();
        for (int step = 0; step < 6; step++) {
            Checks.stepIs(x, 0, step, SagaRunner.ACTIVE, 1, 1 + step, 0, 0);
        }
        Checks.stepIs(x, 0, 6, SagaRunner.IDLE, 0, 0, 0, 0);
    }

    private static void templateStaysClosed() {
        SagaRunner x = Slots.defined(1, 16);
        x.crash();
        Checks.due("defineStep before any start", x.defineStep(3, 1, 1, 0), 4);
        x.start();
        Checks.due("crash()", x.crash(), 1);
        Checks.refused(x, "defineStep", () -> x.defineStep(3, 1, 1, 0), SagaRunner.REFUSED);
    }

    private static void capacitiesAreKept() {
        SagaRunner x = new SagaRunner(2, 9);
        x.defineStep(0, 1, 15, 0);
        x.crash();
        x.start();
        x.start();
        Checks.refused(x, "a third start()", x::start, SagaRunner.REFUSED);
        Checks.due("instanceInfo(2, 0)", x.instanceInfo(2, 0), SagaRunner.REFUSED);
        Checks.fillWithTicks(x, 9);
        Checks.refused(x, "a tenth record", () -> x.tick(1), SagaRunner.FULL);
    }

    private static void everyDurablePrefixIsRebuilt() {
        for (int kept = 0; kept <= Scenario.CALLS; kept++) {
            SagaRunner fresh = Scenario.afterCalls(kept);
            fresh.flush();
            SagaRunner x = Scenario.afterCalls(kept);
            x.flush();
            for (int i = kept; i < Scenario.CALLS; i++) {
                Scenario.call(x, i);
            }
            Checks.due("crash()", x.crash(), Scenario.CALLS - kept);
            Checks.unchanged("crash() back to " + kept + " records", Checks.answers(fresh), x);
            for (int i = kept; i < Scenario.CALLS; i++) {
                Scenario.call(x, i);
            }
        }
    }

    private static void ticksBeforeTheTemplate() {
        SagaRunner x = new SagaRunner(1, 16);
        x.tick(7);
        x.defineStep(0, 1, 4, 1);
        x.tick(1);
        x.defineStep(1, 1, 4, 1);
        x.start();
        x.flush();
        SagaRunner fresh = new SagaRunner(1, 16);
        fresh.defineStep(0, 1, 4, 1);
        fresh.defineStep(1, 1, 4, 1);
        fresh.tick(7);
        fresh.tick(1);
        fresh.start();
        fresh.flush();
        x.crash();
        Checks.unchanged("crash()", Checks.answers(fresh), x);
    }

    private static void crashAfterFlushKeepsAll() {
        for (int n = 0; n <= Scenario.CALLS; n++) {
            SagaRunner x = Scenario.afterCalls(n);
            x.flush();
            int[] before = Checks.answers(x);
            Checks.due("crash()", x.crash(), 0);
            Checks.unchanged("crash() after flush and " + n + " calls", before, x);
            Checks.due("second crash()", x.crash(), 0);
            Checks.unchanged("second crash()", before, x);
        }
        SagaRunner inEachState = Slots.oneInEachState();
        inEachState.flush();
        int[] before = Checks.answers(inEachState);
        Checks.due("crash()", inEachState.crash(), 0);
        Checks.unchanged("crash() after flush with a slot in each state", before, inEachState);
    }
}
