public final class Promise13JournalFieldTest {
    public static void main(String[] args) {
        everyKindIsTold();
        wrongArgumentsAreRefused();
        droppedRecordsAreRefused();
        lastRecordOfAFullJournal();
        Checks.end();
    }

    private static void everyKindIsTold() {
        SagaRunner x = new SagaRunner(3, 16);
        x.defineStep(0, 2, 15, 1);
        x.defineStep(0, 3, 15, 1);
        x.start();
        x.start();
        x.start();
        x.report(2, 1, 1, false);
        x.report(2, 1, 2, true);
        x.report(2, 0, 1, true);
        x.tick(13);
        x.release(2);
        Checks.recordIs(x, 0, SagaRunner.J_START, 0, 0, 0);
        Checks.recordIs(x, 1, SagaRunner.J_START, 1, 0, 0);
        Checks.recordIs(x, 2, SagaRunner.J_START, 2, 0, 0);
        Checks.recordIs(x, 3, SagaRunner.J_FAIL, 2, 1, 1);
        Checks.recordIs(x, 4, SagaRunner.J_OK, 2, 1, 2);
        Checks.recordIs(x, 5, SagaRunner.J_OK, 2, 0, 1);
        Checks.recordIs(x, 6, SagaRunner.J_TICK, 13, 0, 0);
        Checks.recordIs(x, 7, SagaRunner.J_RELEASE, 2, 0, 0);
        refused(x, 8, 0);
    }

    private static void refused(SagaRunner x, int index, int field) {
        Checks.due("journalField(" + index + ", " + field + ")", x.journalField(index, field), SagaRunner.REFUSED);
    }

    private static void wrongArgumentsAreRefused() {
        SagaRunner x = new SagaRunner(1, 16);
        refused(x, 0, 0);
        for (int i = 0; i < 4; i++) {
            x.tick(1);
        }
        int[] outside = {Integer.MIN_VALUE, -1, 4, 128, Integer.MAX_VALUE};
        int[] before = Checks.answers(x);
        for (int wrong : outside) {
            for (int good = 0; good < 4; good++) {
                refused(x, wrong, good);
                refused(x, good, wrong);
            }
            refused(x, wrong, wrong);
        }
        Checks.unchanged("journalField", before, x);
    }

    // Records appended after a shorter one must not show what stood in their place before.
    private static void droppedRecordsAreRefused() {
        SagaRunner x = new SagaRunner(1, 16);
        x.defineStep(0, 2, 15, 1);
        x.start();
        x.flush();
        x.report(0, 0, 1, false);
        x.report(0, 0, 2, true);
        x.crash();
        refused(x, 1, 0);
        refused(x, 2, 3);
        x.tick(9);
        Checks.recordIs(x, 1, SagaRunner.J_TICK, 9, 0, 0);
        refused(x, 2, 0);
    }

    private static void lastRecordOfAFullJournal() {
        SagaRunner x = new SagaRunner(1, 128);
        for (int i = 0; i < 128; i++) {
            x.tick(1 + i % 16);
        }
        for (int i = 0; i < 128; i++) {
            Checks.recordIs(x, i, SagaRunner.J_TICK, 1 + i % 16, 0, 0);
        }
        refused(x, 128, 0);
    }
}
