public final class Promise08CrashTest {
    public static void main(String[] args) {
        crashOfANewObject();
        crashWithoutFlushForgetsAll();
        crashAfterFlushKeepsAll();
        crashGoesBackToTheFlush();
        everyDurablePrefixIsRebuilt();
        fullJournalHasRoomAgain();
        journalGoesOnAfterCrash();
        ticksBeforeTheTemplate();
        Checks.end();
    }

    private static void crashOfANewObject() {
        SagaRunner x = new SagaRunner(2, 16);
        int[] before = Checks.answers(x);
        Checks.due("crash()", x.crash(), 0);
        Checks.unchanged("crash() of a new object", before, x);
    }

    private static SagaRunner defined() {
        SagaRunner x = new SagaRunner(3, 64);
        x.defineStep(0, 2, 3, 1);
        x.defineStep(0, 1, 9, 1);
        x.defineStep(1, 1, 4, 2);
        x.defineStep(2, 1, 2, 1);
        return x;
    }

    /** One call of a run that meets every kind of record, a commit, a roll back and a used slot again. */
    private static int call(SagaRunner x, int i) {
        switch (i) {
            case 0: return x.tick(5);
            case 1: return x.start();
            case 2: return x.start();
            case 3: return x.tick(3);
            case 4: return x.report(0, 0, 2, true);
            case 5: return x.report(0, 1, 1, true);
            case 6: return x.report(1, 1, 1, true);
            case 7: return x.report(1, 0, 2, false);
            case 8: return x.report(1, 1, 1, false);
            case 9: return x.report(0, 2, 1, true);
            case 10: return x.tick(2);
            case 11: return x.report(0, 3, 2, true);
            case 12: return x.release(0);
            case 13: return x.start();
            case 14: return x.report(1, 1, 2, true);
            case 15: return x.tick(16);
            case 16: return x.release(1);
            default: return x.start();
        }
    }

    private static final int CALLS = 18;
    private static final int[] DUE = {0, 0, 1, 2, 2, 2, 2, 3, 4, 2, 1, 2, 0, 0, 5, 2, 0, 1};

    private static SagaRunner afterCalls(int n) {
        SagaRunner x = defined();
        for (int i = 0; i < n; i++) {
            Checks.due("call " + i, call(x, i), DUE[i]);
        }
        return x;
    }

    private static void crashWithoutFlushForgetsAll() {
        SagaRunner x = afterCalls(CALLS);
        Checks.due("crash()", x.crash(), CALLS);
        Checks.unchanged("crash() without flush", Checks.answers(defined()), x);
        Checks.due("defineStep", x.defineStep(2, 1, 1, 0), SagaRunner.REFUSED);
    }

    private static void crashAfterFlushKeepsAll() {
        for (int n = 0; n <= CALLS; n++) {
            SagaRunner x = afterCalls(n);
            x.flush();
            int[] before = Checks.answers(x);
            Checks.due("crash()", x.crash(), 0);
            Checks.unchanged("crash() after flush and " + n + " calls", before, x);
            Checks.due("second crash()", x.crash(), 0);
            Checks.unchanged("second crash()", before, x);
        }
    }

    private static void crashGoesBackToTheFlush() {
        SagaRunner x = defined();
        x.start();
        x.tick(1);
        x.flush();
        x.report(0, 0, 1, true);
        x.tick(16);
        x.start();
        Checks.due("crash()", x.crash(), 3);
        Checks.due("journalLength()", x.journalLength(), 2);
        Checks.due("durableLength()", x.durableLength(), 2);
        Checks.due("clock()", x.clock(), 1);
        Checks.due("stepCount()", x.stepCount(), 4);
        Checks.slotIs(x, 0, SagaRunner.RUNNING, 0, 0);
        Checks.slotIs(x, 1, SagaRunner.FREE, 0, 0);
        Checks.stepIs(x, 0, 0, SagaRunner.ACTIVE, 1, 3, 0, 0);
        Checks.stepIs(x, 0, 1, SagaRunner.ACTIVE, 1, 9, 0, 0);
        Checks.stepIs(x, 1, 0, SagaRunner.IDLE, 0, 0, 0, 0);
        Checks.due("journalField(2, 0)", x.journalField(2, 0), SagaRunner.REFUSED);
        Checks.due("second crash()", x.crash(), 0);
    }

    private static void everyDurablePrefixIsRebuilt() {
        for (int kept = 0; kept <= CALLS; kept++) {
            SagaRunner x = afterCalls(kept);
            x.flush();
            int[] want = Checks.answers(x);
            for (int i = kept; i < CALLS; i++) {
                call(x, i);
            }
            Checks.due("crash()", x.crash(), CALLS - kept);
            Checks.unchanged("crash() back to " + kept + " records", want, x);
            for (int i = kept; i < CALLS; i++) {
                Checks.due("call " + i + " made again", call(x, i), DUE[i]);
            }
        }
    }

    private static void fullJournalHasRoomAgain() {
        SagaRunner x = new SagaRunner(1, 8);
        x.tick(2);
        x.flush();
        Checks.fillWithTicks(x, 8);
        Checks.due("tick(1)", x.tick(1), SagaRunner.FULL);
        Checks.due("crash()", x.crash(), 7);
        Checks.due("clock()", x.clock(), 2);
        Checks.fillWithTicks(x, 8);
        x.flush();
        Checks.due("crash()", x.crash(), 0);
        Checks.due("tick(1)", x.tick(1), SagaRunner.FULL);
    }

    private static void journalGoesOnAfterCrash() {
        SagaRunner x = new SagaRunner(1, 8);
        x.tick(1);
        x.flush();
        x.tick(2);
        x.tick(3);
        x.crash();
        x.tick(4);
        Checks.recordIs(x, 0, SagaRunner.J_TICK, 1, 0, 0);
        Checks.recordIs(x, 1, SagaRunner.J_TICK, 4, 0, 0);
        Checks.due("journalLength()", x.journalLength(), 2);
        Checks.due("clock()", x.clock(), 5);
    }

    private static void ticksBeforeTheTemplate() {
        SagaRunner x = new SagaRunner(1, 16);
        x.tick(7);
        x.defineStep(0, 1, 4, 1);
        x.start();
        x.flush();
        int[] before = Checks.answers(x);
        x.crash();
        Checks.unchanged("crash()", before, x);
        Checks.stepIs(x, 0, 0, SagaRunner.ACTIVE, 1, 11, 0, 0);
    }
}
