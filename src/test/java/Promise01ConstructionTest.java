public final class Promise01ConstructionTest {
    private static final int[] EXTREMES = {Integer.MIN_VALUE, -1, 0, 1, 8, 128, Integer.MAX_VALUE};

    public static void main(String[] args) {
        sentences().run();
    }

    static Sentences sentences() {
        String capacity = "journalCapacity is clamped to 8..128 in the same way.";
        String fixed = "Both clamped values stay fixed for the life of the object, including across `crash()`.";
        return new Sentences("Promise 1: Construction and initial state")
                .test("accepts any int values", Promise01ConstructionTest::anyValuesMakeAWorkingObject)
                .test("a value below 1 becomes 1", Promise01ConstructionTest::tooFewInstancesBecomeOne)
                .test("a value above 8 becomes 8", Promise01ConstructionTest::tooManyInstancesBecomeEight)
                .test("others are kept", Promise01ConstructionTest::oneToEightInstancesAreKept)
                .test(capacity, "below 8", Promise01ConstructionTest::tooSmallACapacityBecomesEight)
                .test(capacity, "above 128", Promise01ConstructionTest::tooLargeACapacityBecomes128)
                .test(capacity, "8 to 128", Promise01ConstructionTest::capacitiesBetweenAreKept)
                .test(fixed, "instances", Promise01ConstructionTest::instancesStayAcrossCrash)
                .test(fixed, "journalCapacity", Promise01ConstructionTest::capacityStaysAcrossCrash)
                .test("there are no steps (stepCount 0)", Promise01ConstructionTest::noStepsAtTheStart)
                .test("all slots are FREE", Promise01ConstructionTest::allSlotsAreFreeAtTheStart)
                .test("the clock is 0", Promise01ConstructionTest::clockIsZeroAtTheStart)
                .test("the journal is empty (journalLength 0, durableLength 0)",
                        Promise01ConstructionTest::journalIsEmptyAtTheStart)
                .test("no `start()` has ever been accepted", Promise01ConstructionTest::templateIsOpenAtTheStart);
    }

    private static void anyValuesMakeAWorkingObject() {
        for (int instances : EXTREMES) {
            for (int capacity : EXTREMES) {
                SagaRunner x = new SagaRunner(instances, capacity);
                x.defineStep(0, 1, 15, 0);
                Checks.due("start()", x.start(), 0);
                Checks.due("report", x.report(0, 0, 1, true), SagaRunner.DONE);
                Checks.due("flush()", x.flush(), 2);
                Checks.due("crash()", x.crash(), 0);
                Checks.slotIs(x, 0, SagaRunner.COMMITTED, 0, 0);
            }
        }
    }

    private static void slotsAre(int given, int kept) {
        Checks.due("slots of new SagaRunner(" + given + ", 128)", slotsOf(new SagaRunner(given, 128)), kept);
    }

    private static void capacityIs(int given, int kept) {
        Checks.due("capacity of new SagaRunner(1, " + given + ")", capacityOf(new SagaRunner(1, given)), kept);
    }

    private static int slotsOf(SagaRunner x) {
        x.defineStep(0, 1, 15, 0);
        int started = 0;
        while (started < 20 && x.start() == started) {
            started++;
        }
        Checks.due("first slot outside", x.instanceInfo(started, SagaRunner.INST_STATE), SagaRunner.REFUSED);
        Checks.due("last slot", x.instanceInfo(started - 1, SagaRunner.INST_STATE), SagaRunner.RUNNING);
        return started;
    }

    private static int capacityOf(SagaRunner x) {
        int taken = 0;
        while (taken < 200 && x.tick(1) == 0) {
            taken++;
        }
        Checks.due("tick(1) once full", x.tick(1), SagaRunner.FULL);
        return taken;
    }

    private static void tooFewInstancesBecomeOne() {
        int[] tooFew = {0, -1, -2, -8, -255, -65535, Integer.MIN_VALUE, Integer.MIN_VALUE + 4};
        for (int given : tooFew) {
            slotsAre(given, 1);
        }
    }

    private static void tooManyInstancesBecomeEight() {
        int[] tooMany = {9, 10, 16, 128, 256, 257, 65537, 1 << 30, Integer.MAX_VALUE};
        for (int given : tooMany) {
            slotsAre(given, 8);
        }
    }

    private static void oneToEightInstancesAreKept() {
        for (int given = 1; given <= 8; given++) {
            slotsAre(given, given);
        }
    }

    private static void tooSmallACapacityBecomesEight() {
        int[] tooSmall = {7, 6, 1, 0, -1, -8, -128, -129, -65500, Integer.MIN_VALUE, Integer.MIN_VALUE + 64};
        for (int given : tooSmall) {
            capacityIs(given, 8);
        }
    }

    private static void tooLargeACapacityBecomes128() {
        int[] tooLarge = {129, 130, 255, 256, 264, 65536 + 64, 1 << 30, Integer.MAX_VALUE};
        for (int given : tooLarge) {
            capacityIs(given, 128);
        }
    }

    private static void capacitiesBetweenAreKept() {
        for (int given = 8; given <= 128; given++) {
            capacityIs(given, given);
        }
    }

    private static void instancesStayAcrossCrash() {
        for (int given = 0; given <= 9; given++) {
            SagaRunner x = new SagaRunner(given, 64);
            int slots = slotsOf(x);
            x.crash();
            Checks.due("slots after a crash", slotsOf(x), slots);
            x.flush();
            x.crash();
            Checks.due("first slot outside", x.instanceInfo(slots, SagaRunner.INST_STATE), SagaRunner.REFUSED);
        }
    }

    private static void capacityStaysAcrossCrash() {
        int[] capacities = {7, 8, 9, 127, 128, 129};
        for (int given : capacities) {
            SagaRunner x = new SagaRunner(1, given);
            int capacity = capacityOf(x);
            x.crash();
            Checks.due("capacity after a crash", capacityOf(x), capacity);
            x.flush();
            x.crash();
            Checks.due("tick(1) after a crash that kept all", x.tick(1), SagaRunner.FULL);
        }
    }

    private static void noStepsAtTheStart() {
        SagaRunner x = new SagaRunner(8, 128);
        Checks.due("stepCount()", x.stepCount(), 0);
        Checks.due("stepInfo(0, 0, 0)", x.stepInfo(0, 0, 0), SagaRunner.REFUSED);
        Checks.refused(x, "start()", x::start, SagaRunner.REFUSED);
    }

    private static void allSlotsAreFreeAtTheStart() {
        SagaRunner x = new SagaRunner(8, 128);
        for (int inst = 0; inst < 8; inst++) {
            Checks.slotIs(x, inst, SagaRunner.FREE, 0, 0);
        }
    }

    private static void clockIsZeroAtTheStart() {
        Checks.due("clock()", new SagaRunner(8, 128).clock(), 0);
    }

    private static void journalIsEmptyAtTheStart() {
        SagaRunner x = new SagaRunner(8, 128);
        Checks.lengthsAre(x, 0, 0);
        Checks.due("journalField(0, 0)", x.journalField(0, 0), SagaRunner.REFUSED);
    }

    private static void templateIsOpenAtTheStart() {
        Checks.due("defineStep", new SagaRunner(8, 128).defineStep(0, 1, 1, 0), 0);
    }
}
