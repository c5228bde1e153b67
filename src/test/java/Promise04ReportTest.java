public final class Promise04ReportTest {
    public static void main(String[] args) {
        stagesRunToCommit();
        failuresAreRetriedUpToTheLimit();
        abortWaitsForStepsInFlight();
        noRetryOnceAborting();
        undoRunsNewestFirst();
        lastOkOfAnAbortMayBeUndoneAtOnce();
        compensationsRetryWithoutLimit();
        abortWithNothingToUndo();
        pivotItselfMayFail();
        pastPivotOnlyRetries();
        conditionsComeInOrder();
        otherSlotsStay();
        greatestTemplateInEverySlot();
        Checks.end();
    }

    private static void refused(SagaRunner x, int inst, int step, int attempt, int want) {
        String call = "report(" + inst + ", " + step + ", " + attempt + ")";
        int[] before = Checks.answers(x);
        Checks.due(call, x.report(inst, step, attempt, true), want);
        Checks.due(call, x.report(inst, step, attempt, false), want);
        Checks.unchanged(call, before, x);
    }

    private static void ok(SagaRunner x, int step, int attempt, int want) {
        Checks.due("report(0, " + step + ", " + attempt + ", true)", x.report(0, step, attempt, true), want);
    }

    private static void fail(SagaRunner x, int step, int attempt, int want) {
        Checks.due("report(0, " + step + ", " + attempt + ", false)", x.report(0, step, attempt, false), want);
    }

    private static void stagesRunToCommit() {
        SagaRunner x = new SagaRunner(1, 32);
        x.defineStep(0, 1, 3, 0);
        x.defineStep(0, 1, 4, 0);
        x.defineStep(1, 1, 5, 0);
        x.start();
        x.tick(2);
        x.flush();
        ok(x, 1, 1, SagaRunner.DONE);
        Checks.slotIs(x, 0, SagaRunner.RUNNING, 0, 0);
        Checks.stepIs(x, 0, 1, SagaRunner.DONE, 1, 0, 1, 0);
        Checks.stepIs(x, 0, 2, SagaRunner.IDLE, 0, 0, 0, 0);
        ok(x, 0, 1, SagaRunner.DONE);
        Checks.slotIs(x, 0, SagaRunner.RUNNING, 1, 0);
        Checks.stepIs(x, 0, 0, SagaRunner.DONE, 1, 0, 2, 0);
        Checks.stepIs(x, 0, 2, SagaRunner.ACTIVE, 1, 7, 0, 0);
        ok(x, 2, 1, SagaRunner.DONE);
        Checks.slotIs(x, 0, SagaRunner.COMMITTED, 1, 0);
        Checks.stepIs(x, 0, 2, SagaRunner.DONE, 1, 0, 3, 0);
        Checks.recordIs(x, 2, SagaRunner.J_OK, 0, 1, 1);
        Checks.recordIs(x, 3, SagaRunner.J_OK, 0, 0, 1);
        Checks.due("durableLength()", x.durableLength(), 2);
        Checks.due("clock()", x.clock(), 2);
    }

    private static void failuresAreRetriedUpToTheLimit() {
        for (int limit = 1; limit <= 4; limit++) {
            SagaRunner x = new SagaRunner(1, 32);
            x.defineStep(0, limit, 7, 0);
            x.start();
            for (int attempt = 1; attempt < limit; attempt++) {
                x.tick(1);
                fail(x, 0, attempt, SagaRunner.ACTIVE);
                Checks.stepIs(x, 0, 0, SagaRunner.ACTIVE, attempt + 1, attempt + 7, 0, 0);
                refused(x, 0, 0, attempt, SagaRunner.STALE);
            }
            fail(x, 0, limit, SagaRunner.FAILED);
            Checks.stepIs(x, 0, 0, SagaRunner.FAILED, limit, 0, 0, 0);
            Checks.slotIs(x, 0, SagaRunner.ROLLED_BACK, 0, 0);
            Checks.recordIs(x, x.journalLength() - 1, SagaRunner.J_FAIL, 0, 0, limit);
        }
    }

    private static SagaRunner threeInOneStage() {
        SagaRunner x = new SagaRunner(1, 64);
        x.defineStep(0, 1, 9, 1);
        x.defineStep(0, 4, 9, 1);
        x.defineStep(0, 4, 9, 1);
        x.defineStep(1, 1, 9, 1);
        x.start();
        return x;
    }

    private static void abortWaitsForStepsInFlight() {
        SagaRunner x = threeInOneStage();
        fail(x, 0, 1, SagaRunner.FAILED);
        Checks.slotIs(x, 0, SagaRunner.ABORTING, 0, 0);
        Checks.stepIs(x, 0, 1, SagaRunner.ACTIVE, 1, 9, 0, 0);
        ok(x, 1, 1, SagaRunner.DONE);
        Checks.slotIs(x, 0, SagaRunner.ABORTING, 0, 0);
        Checks.stepIs(x, 0, 1, SagaRunner.DONE, 1, 0, 1, 0);
        fail(x, 2, 1, SagaRunner.FAILED);
        Checks.slotIs(x, 0, SagaRunner.COMPENSATING, 0, 0);
        Checks.stepIs(x, 0, 1, SagaRunner.UNDOING, 1, 9, 1, 0);
        ok(x, 1, 1, SagaRunner.UNDONE);
        Checks.stepIs(x, 0, 1, SagaRunner.UNDONE, 1, 0, 1, 1);
        Checks.slotIs(x, 0, SagaRunner.ROLLED_BACK, 0, 0);
        Checks.stepIs(x, 0, 3, SagaRunner.IDLE, 0, 0, 0, 0);
    }

    private static void noRetryOnceAborting() {
        SagaRunner x = threeInOneStage();
        fail(x, 1, 1, SagaRunner.ACTIVE);
        fail(x, 0, 1, SagaRunner.FAILED);
        fail(x, 1, 2, SagaRunner.FAILED);
        Checks.slotIs(x, 0, SagaRunner.ABORTING, 0, 0);
        Checks.stepIs(x, 0, 1, SagaRunner.FAILED, 2, 0, 0, 0);
        fail(x, 2, 1, SagaRunner.FAILED);
        Checks.slotIs(x, 0, SagaRunner.ROLLED_BACK, 0, 0);
    }

    private static void undoRunsNewestFirst() {
        SagaRunner x = new SagaRunner(1, 64);
        x.defineStep(0, 1, 3, 1);
        x.defineStep(0, 1, 4, 0);
        x.defineStep(0, 1, 5, 1);
        x.defineStep(1, 1, 6, 1);
        x.defineStep(1, 1, 7, 1);
        x.start();
        ok(x, 2, 1, SagaRunner.DONE);
        ok(x, 0, 1, SagaRunner.DONE);
        ok(x, 1, 1, SagaRunner.DONE);
        ok(x, 3, 1, SagaRunner.DONE);
        x.tick(2);
        fail(x, 4, 1, SagaRunner.FAILED);
        Checks.slotIs(x, 0, SagaRunner.COMPENSATING, 1, 0);
        Checks.stepIs(x, 0, 3, SagaRunner.UNDOING, 1, 8, 4, 0);
        Checks.stepIs(x, 0, 0, SagaRunner.DONE, 1, 0, 2, 0);
        ok(x, 3, 1, SagaRunner.UNDONE);
        Checks.stepIs(x, 0, 3, SagaRunner.UNDONE, 1, 0, 4, 1);
        Checks.stepIs(x, 0, 0, SagaRunner.UNDOING, 1, 5, 2, 0);
        Checks.stepIs(x, 0, 2, SagaRunner.DONE, 1, 0, 1, 0);
        ok(x, 0, 1, SagaRunner.UNDONE);
        Checks.stepIs(x, 0, 2, SagaRunner.UNDOING, 1, 7, 1, 0);
        ok(x, 2, 1, SagaRunner.UNDONE);
        Checks.slotIs(x, 0, SagaRunner.ROLLED_BACK, 1, 0);
        Checks.stepIs(x, 0, 0, SagaRunner.UNDONE, 1, 0, 2, 2);
        Checks.stepIs(x, 0, 1, SagaRunner.DONE, 1, 0, 3, 0);
        Checks.stepIs(x, 0, 2, SagaRunner.UNDONE, 1, 0, 1, 3);
        Checks.stepIs(x, 0, 4, SagaRunner.FAILED, 1, 0, 0, 0);
        for (int step = 0; step < 5; step++) {
            refused(x, 0, step, 1, SagaRunner.STALE);
        }
    }

    private static void lastOkOfAnAbortMayBeUndoneAtOnce() {
        SagaRunner x = new SagaRunner(1, 64);
        x.defineStep(0, 1, 3, 1);
        x.defineStep(0, 2, 4, 1);
        x.start();
        fail(x, 1, 1, SagaRunner.ACTIVE);
        fail(x, 0, 1, SagaRunner.FAILED);
        ok(x, 1, 2, SagaRunner.UNDOING);
        Checks.stepIs(x, 0, 1, SagaRunner.UNDOING, 1, 4, 1, 0);
        Checks.slotIs(x, 0, SagaRunner.COMPENSATING, 0, 0);
        refused(x, 0, 1, 2, SagaRunner.STALE);

        SagaRunner plain = new SagaRunner(1, 64);
        plain.defineStep(0, 1, 3, 1);
        plain.defineStep(0, 1, 4, 0);
        plain.start();
        fail(plain, 0, 1, SagaRunner.FAILED);
        ok(plain, 1, 1, SagaRunner.DONE);
        Checks.slotIs(plain, 0, SagaRunner.ROLLED_BACK, 0, 0);
    }

    private static void compensationsRetryWithoutLimit() {
        SagaRunner x = new SagaRunner(1, 64);
        x.defineStep(0, 1, 3, 1);
        x.defineStep(1, 1, 3, 0);
        x.start();
        ok(x, 0, 1, SagaRunner.DONE);
        fail(x, 1, 1, SagaRunner.FAILED);
        for (int attempt = 1; attempt <= 20; attempt++) {
            x.tick(1);
            fail(x, 0, attempt, SagaRunner.UNDOING);
            Checks.stepIs(x, 0, 0, SagaRunner.UNDOING, attempt + 1, attempt + 3, 1, 0);
            refused(x, 0, 0, attempt, SagaRunner.STALE);
        }
        ok(x, 0, 21, SagaRunner.UNDONE);
        Checks.stepIs(x, 0, 0, SagaRunner.UNDONE, 21, 0, 1, 1);
        Checks.slotIs(x, 0, SagaRunner.ROLLED_BACK, 1, 0);
    }

    private static void abortWithNothingToUndo() {
        SagaRunner x = new SagaRunner(1, 64);
        x.defineStep(0, 1, 3, 0);
        x.defineStep(1, 1, 3, 1);
        x.start();
        ok(x, 0, 1, SagaRunner.DONE);
        fail(x, 1, 1, SagaRunner.FAILED);
        Checks.slotIs(x, 0, SagaRunner.ROLLED_BACK, 1, 0);
        Checks.stepIs(x, 0, 0, SagaRunner.DONE, 1, 0, 1, 0);
    }

    private static void pivotItselfMayFail() {
        SagaRunner x = new SagaRunner(1, 64);
        x.defineStep(0, 1, 3, 1);
        x.defineStep(1, 2, 3, SagaRunner.PIVOT);
        x.start();
        ok(x, 0, 1, SagaRunner.DONE);
        fail(x, 1, 1, SagaRunner.ACTIVE);
        fail(x, 1, 2, SagaRunner.FAILED);
        Checks.slotIs(x, 0, SagaRunner.COMPENSATING, 1, 0);
        ok(x, 0, 1, SagaRunner.UNDONE);
        Checks.slotIs(x, 0, SagaRunner.ROLLED_BACK, 1, 0);
    }

    private static void pastPivotOnlyRetries() {
        SagaRunner x = new SagaRunner(1, 64);
        x.defineStep(0, 1, 3, 3);
        x.defineStep(1, 1, 3, 0);
        x.defineStep(1, 2, 3, 0);
        x.start();
        ok(x, 0, 1, SagaRunner.DONE);
        Checks.slotIs(x, 0, SagaRunner.RUNNING, 1, 1);
        for (int attempt = 1; attempt <= 12; attempt++) {
            fail(x, 1, attempt, SagaRunner.ACTIVE);
            fail(x, 2, attempt, SagaRunner.ACTIVE);
        }
        Checks.stepIs(x, 0, 1, SagaRunner.ACTIVE, 13, 3, 0, 0);
        Checks.slotIs(x, 0, SagaRunner.RUNNING, 1, 1);
        ok(x, 1, 13, SagaRunner.DONE);
        ok(x, 2, 13, SagaRunner.DONE);
        Checks.slotIs(x, 0, SagaRunner.COMMITTED, 1, 1);
        Checks.stepIs(x, 0, 1, SagaRunner.DONE, 13, 0, 2, 0);
    }

    private static void conditionsComeInOrder() {
        SagaRunner x = new SagaRunner(2, 8);
        x.defineStep(0, 2, 15, 0);
        x.defineStep(1, 2, 15, 0);
        x.start();
        wrongArguments(x);
        Checks.fillWithTicks(x, 8);
        wrongArguments(x);
        refused(x, 0, 0, 1, SagaRunner.FULL);
    }

    private static void wrongArguments(SagaRunner x) {
        int[] far = {Integer.MIN_VALUE, -1, 2, Integer.MAX_VALUE};
        for (int wrong : far) {
            refused(x, wrong, 0, 1, SagaRunner.REFUSED);
            refused(x, 0, wrong, 1, SagaRunner.REFUSED);
            refused(x, wrong, wrong, wrong, SagaRunner.REFUSED);
            refused(x, 0, 0, wrong, SagaRunner.STALE);
        }
        refused(x, 0, 0, 0, SagaRunner.STALE);
        refused(x, 0, 1, 0, SagaRunner.STALE);
        refused(x, 0, 1, 1, SagaRunner.STALE);
        refused(x, 1, 0, 0, SagaRunner.STALE);
        refused(x, 1, 0, 1, SagaRunner.STALE);
    }

    private static void otherSlotsStay() {
        SagaRunner x = new SagaRunner(3, 32);
        x.defineStep(0, 1, 5, 1);
        x.defineStep(1, 1, 5, 1);
        x.start();
        x.start();
        x.start();
        Checks.due("report", x.report(1, 0, 1, true), SagaRunner.DONE);
        Checks.due("report", x.report(2, 0, 1, false), SagaRunner.FAILED);
        Checks.slotIs(x, 0, SagaRunner.RUNNING, 0, 0);
        Checks.slotIs(x, 1, SagaRunner.RUNNING, 1, 0);
        Checks.slotIs(x, 2, SagaRunner.ROLLED_BACK, 0, 0);
        Checks.stepIs(x, 0, 0, SagaRunner.ACTIVE, 1, 5, 0, 0);
        Checks.due("report", x.report(0, 0, 1, true), SagaRunner.DONE);
        Checks.stepIs(x, 0, 0, SagaRunner.DONE, 1, 0, 1, 0);
        Checks.recordIs(x, 3, SagaRunner.J_OK, 1, 0, 1);
        Checks.recordIs(x, 4, SagaRunner.J_FAIL, 2, 0, 1);
    }

    private static void greatestTemplateInEverySlot() {
        SagaRunner x = new SagaRunner(8, 128);
        for (int step = 0; step < 12; step++) {
            x.defineStep(step < 11 ? 0 : 1, 1, 15, 1);
        }
        for (int slot = 0; slot < 8; slot++) {
            x.start();
        }
        for (int step = 0; step < 11; step++) {
            for (int slot = 7; slot >= 0; slot -= 7) {
                Checks.due("report", x.report(slot, step, 1, true), SagaRunner.DONE);
                Checks.stepIs(x, slot, step, SagaRunner.DONE, 1, 0, step + 1, 0);
            }
        }
        for (int slot = 0; slot < 8; slot += 7) {
            Checks.due("report", x.report(slot, 11, 1, false), SagaRunner.FAILED);
            for (int step = 10; step >= 0; step--) {
                Checks.due("report", x.report(slot, step, 1, true), SagaRunner.UNDONE);
                Checks.stepIs(x, slot, step, SagaRunner.UNDONE, 1, 0, step + 1, 11 - step);
            }
            Checks.slotIs(x, slot, SagaRunner.ROLLED_BACK, 1, 0);
        }
        Checks.slotIs(x, 6, SagaRunner.RUNNING, 0, 0);
        Checks.stepIs(x, 1, 0, SagaRunner.ACTIVE, 1, 15, 0, 0);
    }
}
