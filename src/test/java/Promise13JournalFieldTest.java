public final class Promise13JournalFieldTest {
    public static void main(String[] args) {
        sentences().run();
    }

    static Sentences sentences() {
        String index = "answers REFUSED when index is outside 0..journalLength-1";
        return new Sentences("Promise 13: Journal records")
                .test(index, "an empty journal", Promise13JournalFieldTest::emptyJournalIsRefused)
                .test(index, "1 to 128 records", Promise13JournalFieldTest::indexOutsideIsRefused)
                .test(index, "records that a crash dropped", Promise13JournalFieldTest::droppedRecordsAreRefused)
                .test("or field is outside 0..3", Promise13JournalFieldTest::fieldOutsideIsRefused)
                .test("field 0 is the kind", Promise13JournalFieldTest::kindsAreTold)
                .test("field 1 is a (the slot for J_START, J_OK, J_FAIL and J_RELEASE; n for J_TICK)",
                        Promise13JournalFieldTest::slotsAndTicksAreTold)
                .test("field 2 is b (the step for J_OK and J_FAIL, else 0)", Promise13JournalFieldTest::stepsAreTold)
                .test("field 3 is c (the attempt for J_OK and J_FAIL, else 0)",
                        Promise13JournalFieldTest::attemptsAreTold)
                .test("It changes nothing.", Promise13JournalFieldTest::nothingChanges);
    }

    private static void refused(SagaRunner x, int index, int field) {
        Checks.due("journalField(" + index + ", " + field + ")", x.journalField(index, field), SagaRunner.REFUSED);
    }

    private static void emptyJournalIsRefused() {
        SagaRunner x = new SagaRunner(1, 8);
        for (int field = 0; field < 4; field++) {
            refused(x, 0, field);
            refused(x, -1, field);
            refused(x, 7, field);
        }
    }

    private static void indexOutsideIsRefused() {
        SagaRunner x = new SagaRunner(1, 128);
        for (int length = 1; length <= 128; length++) {
            x.tick(1 + length % 16);
            for (int index : Checks.outside(0, length - 1)) {
                for (int field = 0; field < 4; field++) {
                    refused(x, index, field);
                }
                refused(x, index, index);
            }
            Checks.recordIs(x, 0, SagaRunner.J_TICK, 2, 0, 0);
            Checks.recordIs(x, length - 1, SagaRunner.J_TICK, 1 + length % 16, 0, 0);
        }
    }

    private static void droppedRecordsAreRefused() {
        SagaRunner x = new SagaRunner(1, 16);
        x.defineStep(0, 2, 15, 1);
        x.start();
        x.flush();
        x.report(0, 0, 1, false);
        x.report(0, 0, 2, true);
        x.crash();
        for (int field = 0; field < 4; field++) {
            refused(x, 1, field);
            refused(x, 2, field);
        }
    }

    private static void fieldOutsideIsRefused() {
        SagaRunner x = everyKind();
        for (int field : Checks.outside(0, 3)) {
            for (int index = 0; index < x.journalLength(); index++) {
                refused(x, index, field);
            }
        }
    }

    /** START, START, START, FAIL, OK, OK, TICK, RELEASE, all of slot 2 where they can be. */
    private static SagaRunner everyKind() {
        SagaRunner x = new SagaRunner(3, 16);
        x.defineStep(0, 2, 15, 1);
        x.defineStep(0, 3, 15, 1);
        x.start();
        x.start();
        x.start();
        x.report(2, 1, 1, false);
        x.report(2, 1, 2, true);
        x.report(2, 0, 1, true);
        x.tick(13);
        x.release(2);
        return x;
    }

    private static void fieldsAre(int field, int... want) {
        SagaRunner x = everyKind();
        for (int index = 0; index < want.length; index++) {
            Checks.due("journalField(" + index + ", " + field + ")", x.journalField(index, field), want[index]);
        }
    }

    private static void kindsAreTold() {
        fieldsAre(0, SagaRunner.J_START, SagaRunner.J_START, SagaRunner.J_START, SagaRunner.J_FAIL, SagaRunner.J_OK,
                SagaRunner.J_OK, SagaRunner.J_TICK, SagaRunner.J_RELEASE);
    }

    private static void slotsAndTicksAreTold() {
        fieldsAre(1, 0, 1, 2, 2, 2, 2, 13, 2);
    }

    private static void stepsAreTold() {
        fieldsAre(2, 0, 0, 0, 1, 1, 0, 0, 0);
        afterADroppedReport();
    }

    private static void attemptsAreTold() {
        fieldsAre(3, 0, 0, 0, 1, 2, 1, 0, 0);
        afterADroppedReport();
    }

    /** A record must not show what a dropped one left in its place. */
    private static void afterADroppedReport() {
        SagaRunner x = new SagaRunner(1, 16);
        x.defineStep(0, 2, 15, 1);
        x.defineStep(0, 2, 15, 1);
        x.start();
        x.flush();
        x.report(0, 1, 1, false);
        x.report(0, 1, 2, true);
        x.crash();
        x.tick(9);
        x.tick(8);
        Checks.recordIs(x, 1, SagaRunner.J_TICK, 9, 0, 0);
        Checks.recordIs(x, 2, SagaRunner.J_TICK, 8, 0, 0);
    }

    private static void nothingChanges() {
        SagaRunner x = everyKind();
        int[] before = Checks.answers(x);
        for (int index = -1; index <= x.journalLength(); index++) {
            for (int field = -1; field <= 4; field++) {
                x.journalField(index, field);
            }
        }
        Checks.unchanged("journalField", before, x);
    }
}
