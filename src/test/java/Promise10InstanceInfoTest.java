public final class Promise10InstanceInfoTest {
    public static void main(String[] args) {
        sentences().run();
    }

    static Sentences sentences() {
        return new Sentences("Promise 10: Instance information")
                .test("answers REFUSED when inst is outside 0..instances-1",
                        Promise10InstanceInfoTest::instOutsideIsRefused)
                .test("or what is outside 0..2", Promise10InstanceInfoTest::whatOutsideIsRefused)
                .test("INST_STATE answers the state constant", Promise10InstanceInfoTest::everyStateIsTold)
                .test("INST_STAGE answers the current stage", "0 to 11", Promise10InstanceInfoTest::everyStageIsTold)
                .test("INST_PAST_PIVOT answers 1 or 0", Promise10InstanceInfoTest::pastPivotIsTold)
                .test("It changes nothing.", Promise10InstanceInfoTest::nothingChanges);
    }

    private static void refused(SagaRunner x, int inst, int what) {
        Checks.due("instanceInfo(" + inst + ", " + what + ")", x.instanceInfo(inst, what), SagaRunner.REFUSED);
    }

    private static void instOutsideIsRefused() {
        for (int instances = 1; instances <= 8; instances++) {
            SagaRunner x = Slots.defined(instances, 16);
            for (int inst = 0; inst < instances; inst++) {
                x.start();
            }
            for (int inst : Checks.outside(0, instances - 1)) {
                for (int what = -1; what <= 3; what++) {
                    refused(x, inst, what);
                }
            }
            Checks.stateIs(x, instances - 1, SagaRunner.RUNNING);
        }
    }

    private static void whatOutsideIsRefused() {
        SagaRunner x = Slots.oneInEachState();
        for (int what : Checks.outside(0, 2)) {
            for (int inst = 0; inst < Slots.STATES; inst++) {
                refused(x, inst, what);
            }
        }
    }

    private static void everyStateIsTold() {
        SagaRunner x = Slots.oneInEachState();
        for (int state = 0; state < Slots.STATES; state++) {
            Checks.due("instanceInfo", x.instanceInfo(state, SagaRunner.INST_STATE), state);
        }
    }

    private static void everyStageIsTold() {
        SagaRunner x = new SagaRunner(2, 32);
        for (int stage = 0; stage < 12; stage++) {
            x.defineStep(stage, 1, 15, 0);
        }
        x.start();
        x.start();
        for (int stage = 0; stage < 12; stage++) {
            Checks.due("INST_STAGE", x.instanceInfo(1, SagaRunner.INST_STAGE), stage);
            Checks.due("INST_STAGE", x.instanceInfo(0, SagaRunner.INST_STAGE), 0);
            x.report(1, stage, 1, true);
        }
        Checks.due("INST_STAGE once COMMITTED", x.instanceInfo(1, SagaRunner.INST_STAGE), 11);
        x.release(1);
        Checks.due("INST_STAGE once FREE", x.instanceInfo(1, SagaRunner.INST_STAGE), 0);
    }

    private static void pastPivotIsTold() {
        SagaRunner x = Slots.defined(2, 16);
        x.start();
        x.start();
        int[] pastPivotAfter = {0, 0, 1, 1};
        for (int step = 0; step < 4; step++) {
            x.report(0, step, 1, true);
            Checks.due("INST_PAST_PIVOT", x.instanceInfo(0, SagaRunner.INST_PAST_PIVOT), pastPivotAfter[step]);
            Checks.due("INST_PAST_PIVOT", x.instanceInfo(1, SagaRunner.INST_PAST_PIVOT), 0);
        }
        x.release(0);
        Checks.due("INST_PAST_PIVOT once FREE", x.instanceInfo(0, SagaRunner.INST_PAST_PIVOT), 0);
    }

    private static void nothingChanges() {
        SagaRunner x = Slots.oneInEachState();
        int[] before = Checks.answers(x);
        for (int inst = -1; inst <= Slots.STATES; inst++) {
            for (int what = -1; what <= 3; what++) {
                x.instanceInfo(inst, what);
            }
        }
        Checks.unchanged("instanceInfo", before, x);
    }
}
