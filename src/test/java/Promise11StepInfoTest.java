public final class Promise11StepInfoTest {
    public static void main(String[] args) {
        sentences().run();
    }

    static Sentences sentences() {
        String attempt = "INFO_ATTEMPT: the attempt number kept by the rules: ";
        return new Sentences("Promise 11: Step information")
                .test("answers REFUSED when inst is outside 0..instances-1",
                        Promise11StepInfoTest::instOutsideIsRefused)
                .test("step is outside 0..stepCount-1", "no step at all", Promise11StepInfoTest::noStepIsRefused)
                .test("step is outside 0..stepCount-1", "1 to 12 steps", Promise11StepInfoTest::stepOutsideIsRefused)
                .test("or what is outside 0..4", Promise11StepInfoTest::whatOutsideIsRefused)
                .test("Otherwise: - INFO_STATUS: the status constant.", Promise11StepInfoTest::everyStatusIsTold)
                .test(attempt + "forward attempts while ACTIVE, DONE or FAILED",
                        Promise11StepInfoTest::forwardAttemptsAreTold)
                .test("compensation attempts while UNDOING or UNDONE", Promise11StepInfoTest::undoAttemptsAreTold)
                .test("0 when IDLE", Promise11StepInfoTest::idleHasNoAttempt)
                .test("INFO_DEADLINE: the deadline if the step is in flight, else 0.",
                        Promise11StepInfoTest::deadlineIsOfFlightAlone)
                .test("INFO_DONE_RANK, INFO_UNDO_RANK: the ranks, 0 when not given.",
                        Promise11StepInfoTest::ranksAreZeroUntilGiven)
                .test("It changes nothing.", Promise11StepInfoTest::nothingChanges);
    }

    private static void refused(SagaRunner x, int inst, int step, int what) {
        String call = "stepInfo(" + inst + ", " + step + ", " + what + ")";
        Checks.due(call, x.stepInfo(inst, step, what), SagaRunner.REFUSED);
    }

    private static void infoIs(SagaRunner x, int inst, int step, int what, int want) {
        Checks.due("stepInfo(" + inst + ", " + step + ", " + what + ")", x.stepInfo(inst, step, what), want);
    }

    private static void instOutsideIsRefused() {
        for (int instances = 1; instances <= 8; instances++) {
            SagaRunner x = Slots.defined(instances, 16);
            for (int inst = 0; inst < instances; inst++) {
                x.start();
            }
            for (int inst : Checks.outside(0, instances - 1)) {
                for (int what = 0; what < 5; what++) {
                    refused(x, inst, 0, what);
                    refused(x, inst, 3, what);
                }
                refused(x, inst, inst, inst);
            }
            infoIs(x, instances - 1, 0, SagaRunner.INFO_STATUS, SagaRunner.ACTIVE);
        }
    }

    private static void noStepIsRefused() {
        SagaRunner x = new SagaRunner(8, 8);
        for (int inst = 0; inst < 8; inst++) {
            for (int what = 0; what < 5; what++) {
                refused(x, inst, 0, what);
                refused(x, inst, -1, what);
                refused(x, inst, 11, what);
            }
        }
    }

    private static void stepOutsideIsRefused() {
        SagaRunner x = new SagaRunner(8, 8);
        for (int steps = 1; steps <= 12; steps++) {
            x.defineStep(0, 1, 15, 0);
            for (int step : Checks.outside(0, steps - 1)) {
                for (int what = 0; what < 5; what++) {
                    refused(x, 0, step, what);
                    refused(x, 7, step, what);
                }
            }
            infoIs(x, 7, steps - 1, SagaRunner.INFO_STATUS, SagaRunner.IDLE);
        }
    }

    private static void whatOutsideIsRefused() {
        SagaRunner x = Slots.oneInEachState();
        for (int what : Checks.outside(0, 4)) {
            for (int inst = 0; inst < Slots.STATES; inst++) {
                refused(x, inst, 1, what);
            }
        }
    }

    private static void everyStatusIsTold() {
        SagaRunner x = Slots.oneInEachState();
        infoIs(x, 0, 1, SagaRunner.INFO_STATUS, SagaRunner.IDLE);
        infoIs(x, 1, 1, SagaRunner.INFO_STATUS, SagaRunner.ACTIVE);
        infoIs(x, 2, 0, SagaRunner.INFO_STATUS, SagaRunner.FAILED);
        infoIs(x, 3, 1, SagaRunner.INFO_STATUS, SagaRunner.UNDOING);
        infoIs(x, 4, 1, SagaRunner.INFO_STATUS, SagaRunner.DONE);
        infoIs(x, 5, 1, SagaRunner.INFO_STATUS, SagaRunner.UNDONE);
    }

    private static void forwardAttemptsAreTold() {
        SagaRunner x = new SagaRunner(1, 64);
        x.defineStep(0, 3, 5, 1);
        x.defineStep(1, 4, 6, 1);
        x.start();
        infoIs(x, 0, 0, SagaRunner.INFO_ATTEMPT, 1);
        x.report(0, 0, 1, false);
        x.report(0, 0, 2, false);
        infoIs(x, 0, 0, SagaRunner.INFO_ATTEMPT, 3);
        x.report(0, 0, 3, true);
        Checks.stepIs(x, 0, 0, SagaRunner.DONE, 3, 0, 1, 0);
        for (int attempt = 1; attempt <= 4; attempt++) {
            infoIs(x, 0, 1, SagaRunner.INFO_ATTEMPT, attempt);
            x.report(0, 1, attempt, false);
        }
        Checks.stepIs(x, 0, 1, SagaRunner.FAILED, 4, 0, 0, 0);
    }

    private static void undoAttemptsAreTold() {
        SagaRunner x = new SagaRunner(1, 64);
        x.defineStep(0, 3, 5, 1);
        x.defineStep(1, 1, 6, 0);
        x.start();
        x.report(0, 0, 1, false);
        x.report(0, 0, 2, false);
        x.report(0, 0, 3, true);
        infoIs(x, 0, 0, SagaRunner.INFO_ATTEMPT, 3);
        x.report(0, 1, 1, false);
        for (int attempt = 1; attempt <= 6; attempt++) {
            infoIs(x, 0, 0, SagaRunner.INFO_ATTEMPT, attempt);
            x.report(0, 0, attempt, false);
        }
        x.report(0, 0, 7, true);
        Checks.stepIs(x, 0, 0, SagaRunner.UNDONE, 7, 0, 1, 1);
    }

    private static void idleHasNoAttempt() {
        SagaRunner x = Slots.defined(2, 16);
        x.start();
        Checks.stepIs(x, 0, 2, SagaRunner.IDLE, 0, 0, 0, 0);
        Checks.stepIs(x, 1, 0, SagaRunner.IDLE, 0, 0, 0, 0);
    }

    private static void deadlineIsOfFlightAlone() {
        SagaRunner x = Slots.oneInEachState();
        infoIs(x, 0, 1, SagaRunner.INFO_DEADLINE, 0);
        infoIs(x, 1, 1, SagaRunner.INFO_DEADLINE, 15);
        infoIs(x, 1, 2, SagaRunner.INFO_DEADLINE, 0);
        infoIs(x, 2, 0, SagaRunner.INFO_DEADLINE, 0);
        infoIs(x, 3, 1, SagaRunner.INFO_DEADLINE, 15);
        infoIs(x, 4, 1, SagaRunner.INFO_DEADLINE, 0);
        infoIs(x, 5, 1, SagaRunner.INFO_DEADLINE, 0);
    }

    private static void ranksAreZeroUntilGiven() {
        SagaRunner x = new SagaRunner(1, 16);
        x.defineStep(0, 1, 5, 1);
        x.defineStep(0, 1, 5, 0);
        x.defineStep(1, 1, 5, 1);
        x.start();
        Checks.stepIs(x, 0, 0, SagaRunner.ACTIVE, 1, 5, 0, 0);
        x.report(0, 1, 1, true);
        x.report(0, 0, 1, true);
        Checks.stepIs(x, 0, 0, SagaRunner.DONE, 1, 0, 2, 0);
        x.report(0, 2, 1, false);
        Checks.stepIs(x, 0, 2, SagaRunner.FAILED, 1, 0, 0, 0);
        Checks.stepIs(x, 0, 0, SagaRunner.UNDOING, 1, 5, 2, 0);
        x.report(0, 0, 1, true);
        Checks.stepIs(x, 0, 0, SagaRunner.UNDONE, 1, 0, 2, 1);
        Checks.stepIs(x, 0, 1, SagaRunner.DONE, 1, 0, 1, 0);
    }

    private static void nothingChanges() {
        SagaRunner x = Slots.oneInEachState();
        int[] before = Checks.answers(x);
        for (int inst = -1; inst <= Slots.STATES; inst++) {
            for (int what = -1; what <= 5; what++) {
                x.stepInfo(inst, 1, what);
                x.stepInfo(inst, 4, what);
            }
        }
        Checks.unchanged("stepInfo", before, x);
    }
}
