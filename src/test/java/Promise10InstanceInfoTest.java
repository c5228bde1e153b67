public final class Promise10InstanceInfoTest {
    public static void main(String[] args) {
        everyStateIsTold();
        wrongArgumentsAreRefused();
        Checks.end();
    }

    private static void everyStateIsTold() {
        SagaRunner x = new SagaRunner(2, 64);
        x.defineStep(0, 1, 5, 1);
        x.defineStep(0, 1, 5, 1);
        x.defineStep(1, 1, 5, 2);
        x.defineStep(2, 1, 5, 0);
        Checks.slotIs(x, 0, SagaRunner.FREE, 0, 0);
        x.start();
        x.start();
        Checks.slotIs(x, 0, SagaRunner.RUNNING, 0, 0);
        x.report(0, 0, 1, false);
        Checks.slotIs(x, 0, SagaRunner.ABORTING, 0, 0);
        x.report(0, 1, 1, true);
        Checks.slotIs(x, 0, SagaRunner.COMPENSATING, 0, 0);
        x.report(0, 1, 1, true);
        Checks.slotIs(x, 0, SagaRunner.ROLLED_BACK, 0, 0);
        x.report(1, 0, 1, true);
        x.report(1, 1, 1, true);
        Checks.slotIs(x, 1, SagaRunner.RUNNING, 1, 0);
        x.report(1, 2, 1, true);
        Checks.slotIs(x, 1, SagaRunner.RUNNING, 2, 1);
        x.report(1, 3, 1, true);
        Checks.slotIs(x, 1, SagaRunner.COMMITTED, 2, 1);
        x.release(1);
        Checks.slotIs(x, 1, SagaRunner.FREE, 0, 0);
    }

    private static void wrongArgumentsAreRefused() {
        SagaRunner x = new SagaRunner(3, 16);
        x.defineStep(0, 1, 5, 1);
        x.start();
        int[] outside = {Integer.MIN_VALUE, -1, 3, 8, Integer.MAX_VALUE};
        int[] before = Checks.answers(x);
        for (int wrong : outside) {
            for (int good = 0; good < 3; good++) {
                Checks.due("instanceInfo(" + wrong + ", " + good + ")", x.instanceInfo(wrong, good), SagaRunner.REFUSED);
                Checks.due("instanceInfo(" + good + ", " + wrong + ")", x.instanceInfo(good, wrong), SagaRunner.REFUSED);
            }
            Checks.due("instanceInfo(" + wrong + ", " + wrong + ")", x.instanceInfo(wrong, wrong), SagaRunner.REFUSED);
        }
        Checks.unchanged("instanceInfo", before, x);
    }
}
