public final class Promise11StepInfoTest {
    public static void main(String[] args) {
        everyStatusIsTold();
        attemptIsOfTheUndoOnceUndoing();
        wrongArgumentsAreRefused();
        Checks.end();
    }

    private static void everyStatusIsTold() {
        SagaRunner x = new SagaRunner(1, 64);
        x.defineStep(0, 3, 5, 1);
        x.defineStep(1, 2, 6, 1);
        Checks.stepIs(x, 0, 0, SagaRunner.IDLE, 0, 0, 0, 0);
        x.tick(1);
        x.start();
        Checks.stepIs(x, 0, 0, SagaRunner.ACTIVE, 1, 6, 0, 0);
        x.tick(1);
        x.report(0, 0, 1, false);
        Checks.stepIs(x, 0, 0, SagaRunner.ACTIVE, 2, 7, 0, 0);
        x.report(0, 0, 2, true);
        Checks.stepIs(x, 0, 0, SagaRunner.DONE, 2, 0, 1, 0);
        Checks.stepIs(x, 0, 1, SagaRunner.ACTIVE, 1, 8, 0, 0);
        x.report(0, 1, 1, false);
        x.report(0, 1, 2, false);
        Checks.stepIs(x, 0, 1, SagaRunner.FAILED, 2, 0, 0, 0);
    }

    private static void attemptIsOfTheUndoOnceUndoing() {
        SagaRunner x = new SagaRunner(1, 64);
        x.defineStep(0, 3, 5, 1);
        x.defineStep(1, 1, 6, 0);
        x.start();
        x.report(0, 0, 1, false);
        x.report(0, 0, 2, false);
        x.report(0, 0, 3, true);
        x.report(0, 1, 1, false);
        Checks.stepIs(x, 0, 0, SagaRunner.UNDOING, 1, 5, 1, 0);
        x.tick(5);
        Checks.stepIs(x, 0, 0, SagaRunner.UNDOING, 2, 10, 1, 0);
        x.report(0, 0, 2, true);
        Checks.stepIs(x, 0, 0, SagaRunner.UNDONE, 2, 0, 1, 1);
    }

    private static void wrongArgumentsAreRefused() {
        SagaRunner x = new SagaRunner(5, 16);
        for (int step = 0; step < 5; step++) {
            x.defineStep(0, 1, 5, 1);
        }
        x.start();
        int[] outside = {Integer.MIN_VALUE, -1, 5, 8, 12, Integer.MAX_VALUE};
        int[] before = Checks.answers(x);
        for (int wrong : outside) {
            for (int good = 0; good < 5; good++) {
                refused(x, wrong, good, good);
                refused(x, good, wrong, good);
                refused(x, good, good, wrong);
            }
            refused(x, wrong, wrong, wrong);
        }
        Checks.unchanged("stepInfo", before, x);

        refused(new SagaRunner(1, 8), 0, 0, 0);
    }

    private static void refused(SagaRunner x, int inst, int step, int what) {
        String call = "stepInfo(" + inst + ", " + step + ", " + what + ")";
        Checks.due(call, x.stepInfo(inst, step, what), SagaRunner.REFUSED);
    }
}
