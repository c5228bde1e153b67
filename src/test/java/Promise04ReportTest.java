public final class Promise04ReportTest {
    public static void main(String[] args) {
        sentences().run();
    }

    static Sentences sentences() {
        Sentences all = new Sentences("Promise 4: Reporting an attempt's outcome");
        conditions(all);
        answers(all);
        results(all);
        return all;
    }

    private static void conditions(Sentences all) {
        String order = "Conditions in order:";
        all.test("the forward action when the step is ACTIVE, the compensation when it is UNDOING",
                        Promise04ReportTest::actionInFlightIsTheStatus)
                .test("inst outside 0..instances-1 answers REFUSED", Promise04ReportTest::instOutsideIsRefused)
                .test("step outside 0..stepCount-1 answers REFUSED", Promise04ReportTest::stepOutsideIsRefused)
                .test("the step is not in flight", Promise04ReportTest::notInFlightIsStale)
                .test("or `attempt` differs from its attempt, answers STALE", Promise04ReportTest::otherAttemptIsStale)
                .test("(so a result of an attempt that already failed or timed out is dropped)", "failed",
                        Promise04ReportTest::failedAttemptIsStale)
                .test("(so a result of an attempt that already failed or timed out is dropped)", "timed out",
                        Promise04ReportTest::timedOutAttemptIsStale)
                .test("the journal is full answers FULL", Promise04ReportTest::fullJournalAnswersFull)
                .test(order, "REFUSED before STALE", Promise04ReportTest::refusedComesBeforeStale)
                .test(order, "REFUSED before FULL", Promise04ReportTest::refusedComesBeforeFull)
                .test(order, "STALE before FULL", Promise04ReportTest::staleComesBeforeFull);
    }

    private static void answers(Sentences all) {
        all.test("Otherwise the record (J_OK if ok, else J_FAIL; inst, step, attempt) is appended",
                        Promise04ReportTest::recordIsAppended)
                .test("the OK rule (ok true) or the FAIL rule (ok false) for the step's current status is applied",
                        Promise04ReportTest::ruleIsApplied)
                .test("The answer is the step's status after the call", Promise04ReportTest::answerIsTheStatus)
                .test("ACTIVE after a retry", Promise04ReportTest::retryAnswersActive)
                .test("UNDOING after a compensation retry", Promise04ReportTest::undoRetryAnswersUndoing)
                .test("UNDOING when an OK on the last ACTIVE step of an ABORTING instance makes NEXT_UNDO pick that"
                        + " same step", Promise04ReportTest::lastOkMayBeUndoneAtOnce)
                .test("the status is read after all chained rules have run", "another step is picked",
                        Promise04ReportTest::lastOkMayStayDone)
                .test("Only slot inst and the journal change; the clock, durableLength and other slots do not.",
                        Promise04ReportTest::othersDoNotChange);
    }

    private static void results(Sentences all) {
        all.test("an instance in state COMMITTED has every step DONE", Promise04ReportTest::committedHasAllDone)
                .test("An instance in state ROLLED_BACK has pastPivot 0 and no step in flight",
                        Promise04ReportTest::rolledBackHasNothingInFlight)
                .test("exactly the steps that have flag COMPENSABLE and a nonzero doneRank have a nonzero undoRank",
                        Promise04ReportTest::undoneAreTheCompensableDone)
                .test("these undo ranks are 1..k, each used once", "k from 0 to 11",
                        Promise04ReportTest::undoRanksAreUsedOnce)
                .test("of any two such steps, the one with the greater doneRank has the smaller undoRank",
                        Promise04ReportTest::undoRunsAgainstTheDoneRanks);
    }

    private static void refused(SagaRunner x, int inst, int step, int attempt, int want) {
        String call = "report(" + inst + ", " + step + ", " + attempt + ")";
        Checks.refused(x, call + " ok", () -> x.report(inst, step, attempt, true), want);
        Checks.refused(x, call + " failed", () -> x.report(inst, step, attempt, false), want);
    }

    private static void ok(SagaRunner x, int step, int attempt, int want) {
        Checks.due("report(0, " + step + ", " + attempt + ", true)", x.report(0, step, attempt, true), want);
    }

    private static void fail(SagaRunner x, int step, int attempt, int want) {
        Checks.due("report(0, " + step + ", " + attempt + ", false)", x.report(0, step, attempt, false), want);
    }

    private static void actionInFlightIsTheStatus() {
        SagaRunner x = new SagaRunner(1, 16);
        x.defineStep(0, 1, 5, 1);
        x.defineStep(1, 1, 5, 0);
        x.start();
        ok(x, 0, 1, SagaRunner.DONE);
        fail(x, 1, 1, SagaRunner.FAILED);
        ok(x, 0, 1, SagaRunner.UNDONE);
        Checks.recordIs(x, 1, SagaRunner.J_OK, 0, 0, 1);
        Checks.recordIs(x, 3, SagaRunner.J_OK, 0, 0, 1);
    }

    private static void instOutsideIsRefused() {
        for (int instances = 1; instances <= 8; instances++) {
            SagaRunner x = new SagaRunner(instances, 16);
            x.defineStep(0, 1, 15, 0);
            for (int inst = 0; inst < instances; inst++) {
                x.start();
            }
            for (int inst : Checks.outside(0, instances - 1)) {
                refused(x, inst, 0, 1, SagaRunner.REFUSED);
            }
            Checks.due("report of the last slot", x.report(instances - 1, 0, 1, true), SagaRunner.DONE);
        }
    }

    private static void stepOutsideIsRefused() {
        SagaRunner none = new SagaRunner(1, 8);
        refused(none, 0, 0, 0, SagaRunner.REFUSED);
        refused(none, 0, -1, 0, SagaRunner.REFUSED);
        for (int steps = 1; steps <= 12; steps++) {
            SagaRunner x = new SagaRunner(2, 16);
            for (int step = 0; step < steps; step++) {
                x.defineStep(0, 1, 15, 0);
            }
            x.start();
            x.start();
            for (int step : Checks.outside(0, steps - 1)) {
                refused(x, 0, step, 1, SagaRunner.REFUSED);
                refused(x, 1, step, 1, SagaRunner.REFUSED);
            }
            ok(x, steps - 1, 1, SagaRunner.DONE);
        }
    }

    private static void notInFlightIsStale() {
        SagaRunner x = Slots.oneInEachState();
        refused(x, 0, 0, 0, SagaRunner.STALE); // IDLE in a FREE slot
        refused(x, 0, 0, 1, SagaRunner.STALE);
        refused(x, 1, 2, 0, SagaRunner.STALE); // IDLE in a RUNNING one
        refused(x, 1, 2, 1, SagaRunner.STALE);
        refused(x, 2, 0, 1, SagaRunner.STALE); // FAILED
        refused(x, 4, 3, 1, SagaRunner.STALE); // DONE
        refused(x, 5, 1, 1, SagaRunner.STALE); // UNDONE
    }

    private static void otherAttemptIsStale() {
        SagaRunner x = new SagaRunner(1, 16);
        x.defineStep(0, 4, 15, 0);
        x.start();
        for (int attempt = 1; attempt <= 4; attempt++) {
            for (int other : Checks.outside(attempt, attempt)) {
                refused(x, 0, 0, other, SagaRunner.STALE);
            }
            x.report(0, 0, attempt, false);
        }
    }

    private static void failedAttemptIsStale() {
        SagaRunner x = new SagaRunner(1, 16);
        x.defineStep(0, 3, 15, 1);
        x.defineStep(1, 1, 15, 0);
        x.start();
        fail(x, 0, 1, SagaRunner.ACTIVE);
        refused(x, 0, 0, 1, SagaRunner.STALE);
        ok(x, 0, 2, SagaRunner.DONE);
        fail(x, 1, 1, SagaRunner.FAILED);
        refused(x, 0, 1, 1, SagaRunner.STALE);
        refused(x, 0, 0, 2, SagaRunner.STALE); // of the forward action, while the first undo is in flight
        fail(x, 0, 1, SagaRunner.UNDOING);
        refused(x, 0, 0, 1, SagaRunner.STALE);
        ok(x, 0, 2, SagaRunner.UNDONE);
    }

    private static void timedOutAttemptIsStale() {
        SagaRunner x = new SagaRunner(1, 16);
        x.defineStep(0, 2, 3, 0);
        x.start();
        Checks.due("tick(3)", x.tick(3), 1);
        refused(x, 0, 0, 1, SagaRunner.STALE);
        Checks.due("tick(3)", x.tick(3), 1);
        refused(x, 0, 0, 2, SagaRunner.STALE);
        Checks.slotIs(x, 0, SagaRunner.ROLLED_BACK, 0, 0);
    }

    private static SagaRunner fullWithOneInFlight() {
        SagaRunner x = new SagaRunner(2, 8);
        x.defineStep(0, 2, 15, 0);
        x.defineStep(1, 2, 15, 0);
        x.start();
        Checks.fillWithTicks(x, 8);
        return x;
    }

    private static void fullJournalAnswersFull() {
        refused(fullWithOneInFlight(), 0, 0, 1, SagaRunner.FULL);

        SagaRunner room = new SagaRunner(1, 8);
        room.defineStep(0, 2, 15, 0);
        room.start();
        Checks.fillWithTicks(room, 7);
        fail(room, 0, 1, SagaRunner.ACTIVE);
        refused(room, 0, 0, 2, SagaRunner.FULL);
    }

    private static void refusedComesBeforeStale() {
        SagaRunner x = Slots.defined(2, 8);
        refused(x, 2, 0, 99, SagaRunner.REFUSED);
        refused(x, -1, 0, 99, SagaRunner.REFUSED);
        refused(x, 0, 4, 99, SagaRunner.REFUSED);
        refused(x, 0, -1, 99, SagaRunner.REFUSED);
        refused(x, 2, 4, 99, SagaRunner.REFUSED);
        refused(x, 0, 0, 99, SagaRunner.STALE);
    }

    private static void refusedComesBeforeFull() {
        SagaRunner x = fullWithOneInFlight();
        refused(x, 2, 0, 1, SagaRunner.REFUSED);
        refused(x, -1, 0, 1, SagaRunner.REFUSED);
        refused(x, 0, 2, 1, SagaRunner.REFUSED);
        refused(x, 0, -1, 1, SagaRunner.REFUSED);
    }

    private static void staleComesBeforeFull() {
        SagaRunner x = fullWithOneInFlight();
        refused(x, 0, 0, 0, SagaRunner.STALE);
        refused(x, 0, 0, 2, SagaRunner.STALE);
        refused(x, 0, 1, 0, SagaRunner.STALE);
        refused(x, 1, 0, 1, SagaRunner.STALE);
    }

    private static void recordIsAppended() {
        SagaRunner x = new SagaRunner(8, 64);
        for (int step = 0; step < 12; step++) {
            x.defineStep(0, 2, 15, 0);
        }
        for (int inst = 0; inst < 8; inst++) {
            x.start();
        }
        x.report(7, 11, 1, false);
        x.report(7, 11, 2, true);
        x.report(0, 0, 1, true);
        Checks.due("journalLength()", x.journalLength(), 11);
        Checks.recordIs(x, 8, SagaRunner.J_FAIL, 7, 11, 1);
        Checks.recordIs(x, 9, SagaRunner.J_OK, 7, 11, 2);
        Checks.recordIs(x, 10, SagaRunner.J_OK, 0, 0, 1);
    }

    private static void ruleIsApplied() {
        SagaRunner x = new SagaRunner(1, 32);
        x.defineStep(0, 1, 3, 1);
        x.defineStep(0, 2, 4, 1);
        x.defineStep(1, 1, 5, 0);
        x.start();
        x.tick(2);
        fail(x, 1, 1, SagaRunner.ACTIVE);
        Checks.stepIs(x, 0, 1, SagaRunner.ACTIVE, 2, 6, 0, 0);
        ok(x, 1, 2, SagaRunner.DONE);
        Checks.stepIs(x, 0, 1, SagaRunner.DONE, 2, 0, 1, 0);
        ok(x, 0, 1, SagaRunner.DONE);
        Checks.slotIs(x, 0, SagaRunner.RUNNING, 1, 0);
        fail(x, 2, 1, SagaRunner.FAILED);
        Checks.slotIs(x, 0, SagaRunner.COMPENSATING, 1, 0);
        fail(x, 0, 1, SagaRunner.UNDOING);
        Checks.stepIs(x, 0, 0, SagaRunner.UNDOING, 2, 5, 2, 0);
        ok(x, 0, 2, SagaRunner.UNDONE);
        Checks.stepIs(x, 0, 0, SagaRunner.UNDONE, 2, 0, 2, 1);
        ok(x, 1, 1, SagaRunner.UNDONE);
        Checks.slotIs(x, 0, SagaRunner.ROLLED_BACK, 1, 0);
    }

    private static void answerIsTheStatus() {
        for (int state = SagaRunner.RUNNING; state <= SagaRunner.COMPENSATING; state++) {
            for (boolean ok : new boolean[] {false, true}) {
                SagaRunner x = Slots.oneInEachState();
                int answer = x.report(state, 1, 1, ok);
                Checks.due("report in state " + state, answer, x.stepInfo(state, 1, SagaRunner.INFO_STATUS));
            }
        }
    }

    private static void retryAnswersActive() {
        SagaRunner x = new SagaRunner(1, 16);
        x.defineStep(0, 4, 15, 0);
        x.start();
        for (int attempt = 1; attempt <= 3; attempt++) {
            fail(x, 0, attempt, SagaRunner.ACTIVE);
        }
        fail(x, 0, 4, SagaRunner.FAILED);
    }

    private static void undoRetryAnswersUndoing() {
        SagaRunner x = new SagaRunner(1, 16);
        x.defineStep(0, 1, 15, 1);
        x.defineStep(1, 1, 15, 0);
        x.start();
        ok(x, 0, 1, SagaRunner.DONE);
        fail(x, 1, 1, SagaRunner.FAILED);
        for (int attempt = 1; attempt <= 6; attempt++) {
            fail(x, 0, attempt, SagaRunner.UNDOING);
        }
        ok(x, 0, 7, SagaRunner.UNDONE);
    }

    private static void lastOkMayBeUndoneAtOnce() {
        SagaRunner x = new SagaRunner(1, 16);
        x.defineStep(0, 1, 3, 1);
        x.defineStep(0, 2, 4, 1);
        x.start();
        fail(x, 1, 1, SagaRunner.ACTIVE);
        fail(x, 0, 1, SagaRunner.FAILED);
        ok(x, 1, 2, SagaRunner.UNDOING);
        Checks.stepIs(x, 0, 1, SagaRunner.UNDOING, 1, 4, 1, 0);
        Checks.slotIs(x, 0, SagaRunner.COMPENSATING, 0, 0);
        refused(x, 0, 1, 2, SagaRunner.STALE);
        ok(x, 1, 1, SagaRunner.UNDONE);
    }

    private static void lastOkMayStayDone() {
        SagaRunner x = new SagaRunner(1, 16);
        x.defineStep(0, 1, 3, 1);
        x.defineStep(0, 1, 4, 1);
        x.defineStep(0, 1, 5, 0);
        x.start();
        ok(x, 1, 1, SagaRunner.DONE);
        fail(x, 0, 1, SagaRunner.FAILED);
        ok(x, 2, 1, SagaRunner.DONE); // not COMPENSABLE, so the older step 1 is picked
        Checks.stepIs(x, 0, 1, SagaRunner.UNDOING, 1, 4, 1, 0);
        Checks.stepIs(x, 0, 2, SagaRunner.DONE, 1, 0, 2, 0);
        Checks.slotIs(x, 0, SagaRunner.COMPENSATING, 0, 0);
    }

    private static void othersDoNotChange() {
        for (int inst = SagaRunner.RUNNING; inst <= SagaRunner.COMPENSATING; inst++) {
            SagaRunner x = Slots.oneInEachState();
            x.tick(3);
            x.flush();
            int[][] before = Slots.answers(x);
            x.report(inst, 1, 1, true);
            Slots.onlyChanged(inst, before, x);
            Checks.due("clock()", x.clock(), 3);
            Checks.lengthsAre(x, 23, 22);
        }
    }

    private static void committedHasAllDone() {
        for (int stepsOfAStage = 1; stepsOfAStage <= 12; stepsOfAStage++) {
            SagaRunner x = new SagaRunner(1, 16);
            for (int step = 0; step < 12; step++) {
                x.defineStep(step / stepsOfAStage, 1, 15, 1);
            }
            x.start();
            for (int step = 0; step < 12; step++) {
                Checks.stateIs(x, 0, SagaRunner.RUNNING);
                ok(x, step, 1, SagaRunner.DONE);
            }
            Checks.stateIs(x, 0, SagaRunner.COMMITTED);
            for (int step = 0; step < 12; step++) {
                Checks.stepIs(x, 0, step, SagaRunner.DONE, 1, 0, step + 1, 0);
            }
        }
    }

    /**
     * Twelve steps of one stage: from the last one down, so many as done tells get an OK and the others fail. Then all
     * that is to be undone is undone, so that the slot ends ROLLED_BACK.
     */
    private static SagaRunner rolledBack(int done) {
        SagaRunner x = new SagaRunner(1, 64);
        for (int step = 0; step < 12; step++) {
            x.defineStep(0, 1, 15, isCompensable(step) ? SagaRunner.COMPENSABLE : 0);
        }
        x.start();
        for (int step = 11; step >= 0; step--) {
            x.report(0, step, 1, 11 - step < done);
        }
        for (int step = 0; step < 12; step++) {
            if (x.stepInfo(0, step, SagaRunner.INFO_STATUS) == SagaRunner.UNDOING) {
                ok(x, step, 1, SagaRunner.UNDONE);
            }
        }
        Checks.slotIs(x, 0, SagaRunner.ROLLED_BACK, 0, 0);
        return x;
    }

    private static boolean isCompensable(int step) {
        return step % 3 != 1;
    }

    private static void rolledBackHasNothingInFlight() {
        for (int done = 0; done <= 11; done++) {
            SagaRunner x = rolledBack(done);
            Checks.due("pastPivot", x.instanceInfo(0, SagaRunner.INST_PAST_PIVOT), 0);
            for (int step = 0; step < 12; step++) {
                Checks.due("deadline", x.stepInfo(0, step, SagaRunner.INFO_DEADLINE), 0);
                refused(x, 0, step, 1, SagaRunner.STALE);
            }
            Checks.due("tick(16)", x.tick(16), 0);
        }
    }

    private static void undoneAreTheCompensableDone() {
        for (int done = 0; done <= 11; done++) {
            SagaRunner x = rolledBack(done);
            for (int step = 0; step < 12; step++) {
                boolean isDone = x.stepInfo(0, step, SagaRunner.INFO_DONE_RANK) != 0;
                boolean isUndone = x.stepInfo(0, step, SagaRunner.INFO_UNDO_RANK) != 0;
                Checks.holds("that step " + step + " is done", isDone == 11 - step < done);
                Checks.holds("that step " + step + " is undone", isUndone == (isDone && isCompensable(step)));
            }
        }
    }

    private static void undoRanksAreUsedOnce() {
        for (int k = 0; k <= 11; k++) {
            SagaRunner x = new SagaRunner(1, 64);
            for (int step = 0; step <= k; step++) {
                x.defineStep(step < k || k == 0 ? 0 : 1, 1, 15, 1);
            }
            x.start();
            for (int step = 0; step < k; step++) {
                ok(x, step, 1, SagaRunner.DONE);
            }
            x.report(0, k, 1, false);
            for (int step = k - 1; step >= 0; step--) {
                ok(x, step, 1, SagaRunner.UNDONE);
            }
            Checks.stateIs(x, 0, SagaRunner.ROLLED_BACK);
            for (int rank = 1; rank <= 12; rank++) {
                Checks.due("steps with undo rank " + rank, stepsWithUndoRank(x, rank), rank <= k ? 1 : 0);
            }
        }
    }

    private static int stepsWithUndoRank(SagaRunner x, int rank) {
        int found = 0;
        for (int step = 0; step < x.stepCount(); step++) {
            if (x.stepInfo(0, step, SagaRunner.INFO_UNDO_RANK) == rank) {
                found++;
            }
        }
        return found;
    }

    private static void undoRunsAgainstTheDoneRanks() {
        SagaRunner x = rolledBack(11);
        for (int one = 0; one < 12; one++) {
            for (int two = 0; two < 12; two++) {
                int undoOfOne = x.stepInfo(0, one, SagaRunner.INFO_UNDO_RANK);
                int undoOfTwo = x.stepInfo(0, two, SagaRunner.INFO_UNDO_RANK);
                int doneOfOne = x.stepInfo(0, one, SagaRunner.INFO_DONE_RANK);
                int doneOfTwo = x.stepInfo(0, two, SagaRunner.INFO_DONE_RANK);
                if (undoOfOne != 0 && undoOfTwo != 0 && doneOfOne > doneOfTwo) {
                    Checks.holds("undo of " + one + " before " + two, undoOfOne < undoOfTwo);
                }
            }
        }
    }
}
