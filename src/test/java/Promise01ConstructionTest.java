public final class Promise01ConstructionTest {
    public static void main(String[] args) {
        newObjectIsEmpty();
        instancesAreClamped();
        capacityIsClamped();
        clampedValuesSurviveCrash();
        Checks.end();
    }

    private static void newObjectIsEmpty() {
        SagaRunner x = new SagaRunner(8, 128);
        Checks.due("stepCount()", x.stepCount(), 0);
        Checks.due("clock()", x.clock(), 0);
        Checks.due("journalLength()", x.journalLength(), 0);
        Checks.due("durableLength()", x.durableLength(), 0);
        for (int inst = 0; inst < 8; inst++) {
            Checks.slotIs(x, inst, SagaRunner.FREE, 0, 0);
        }
        Checks.due("defineStep as no start was accepted", x.defineStep(0, 1, 1, 0), 0);
    }

    private static void instancesAreClamped() {
        int[] given = {Integer.MIN_VALUE, -1, 0, 1, 2, 7, 8, 9, Integer.MAX_VALUE};
        int[] kept = {1, 1, 1, 1, 2, 7, 8, 8, 8};
        for (int i = 0; i < given.length; i++) {
            Checks.due("slots of " + given[i], slotsOf(new SagaRunner(given[i], 128)), kept[i]);
        }
    }

    private static void capacityIsClamped() {
        int[] given = {Integer.MIN_VALUE, -1, 0, 7, 8, 9, 127, 128, 129, Integer.MAX_VALUE};
        int[] kept = {8, 8, 8, 8, 8, 9, 127, 128, 128, 128};
        for (int i = 0; i < given.length; i++) {
            Checks.due("capacity of " + given[i], capacityOf(new SagaRunner(1, given[i])), kept[i]);
        }
    }

    private static void clampedValuesSurviveCrash() {
        SagaRunner x = new SagaRunner(3, 10);
        x.tick(1);
        x.crash();
        Checks.due("capacity after crash", capacityOf(x), 10);
        x.crash();
        Checks.due("slots after crash", slotsOf(x), 3);
    }

    private static int slotsOf(SagaRunner x) {
        x.defineStep(0, 1, 15, 0);
        int started = 0;
        while (started < 20 && x.start() == started) {
            started++;
        }
        Checks.due("first slot outside", x.instanceInfo(started, SagaRunner.INST_STATE), SagaRunner.REFUSED);
        Checks.due("last slot", x.instanceInfo(started - 1, SagaRunner.INST_STATE), SagaRunner.RUNNING);
        return started;
    }

    private static int capacityOf(SagaRunner x) {
        int taken = 0;
        while (taken < 200 && x.tick(1) == 0) {
            taken++;
        }
        return taken;
    }
}
