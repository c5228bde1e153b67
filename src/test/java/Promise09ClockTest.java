public final class Promise09ClockTest {
    public static void main(String[] args) {
        onlyTicksMoveTheClock();
        greatestClock();
        Checks.end();
    }

    private static void onlyTicksMoveTheClock() {
        SagaRunner x = new SagaRunner(1, 16);
        x.defineStep(0, 1, 5, 0);
        x.start();
        x.report(0, 0, 1, true);
        x.release(0);
        x.flush();
        Checks.due("clock()", x.clock(), 0);
        Checks.due("refused tick", x.tick(0), SagaRunner.REFUSED);
        Checks.due("refused tick", x.tick(-5), SagaRunner.REFUSED);
        Checks.due("clock()", x.clock(), 0);
        x.tick(4);
        Checks.due("clock()", x.clock(), 4);
        x.tick(16);
        Checks.due("clock()", x.clock(), 20);
        int[] before = Checks.answers(x);
        Checks.due("clock() again", x.clock(), 20);
        Checks.unchanged("clock()", before, x);
        x.crash();
        Checks.due("clock() after crash", x.clock(), 0);
    }

    private static void greatestClock() {
        SagaRunner x = new SagaRunner(1, 128);
        for (int i = 1; i <= 128; i++) {
            Checks.due("tick(16)", x.tick(16), 0);
            Checks.due("clock()", x.clock(), 16 * i);
        }
        Checks.due("tick(16)", x.tick(16), SagaRunner.FULL);
        Checks.due("clock()", x.clock(), 2048);
        x.flush();
        x.crash();
        Checks.due("clock() after crash", x.clock(), 2048);
    }
}
