/** One run that meets every kind of record, a commit, a roll back, timeouts and a slot that is used again. */
final class Scenario {
    static final int CALLS = 18;
    private static final int[] DUE = {0, 0, 1, 2, 2, 2, 2, 3, 4, 2, 1, 2, 0, 0, 5, 2, 0, 1};

    private Scenario() {
    }

    static SagaRunner defined() {
        SagaRunner x = new SagaRunner(3, 64);
        x.defineStep(0, 2, 3, 1);
        x.defineStep(0, 1, 9, 1);
        x.defineStep(1, 1, 4, 2);
        x.defineStep(2, 1, 2, 1);
        return x;
    }

    static void call(SagaRunner x, int i) {
        Checks.due("call " + i + " of the scenario", answer(x, i), DUE[i]);
    }

    private static int answer(SagaRunner x, int i) {
        switch (i) {
            case 0: return x.tick(5);
            case 1: return x.start();
            case 2: return x.start();
            case 3: return x.tick(3);
            case 4: return x.report(0, 0, 2, true);
            case 5: return x.report(0, 1, 1, true);
            case 6: return x.report(1, 1, 1, true);
            case 7: return x.report(1, 0, 2, false);
            case 8: return x.report(1, 1, 1, false);
            case 9: return x.report(0, 2, 1, true);
            case 10: return x.tick(2);
            case 11: return x.report(0, 3, 2, true);
            case 12: return x.release(0);
            case 13: return x.start();
            case 14: return x.report(1, 1, 2, true);
            case 15: return x.tick(16);
            case 16: return x.release(1);
            default: return x.start();
        }
    }

    static SagaRunner afterCalls(int n) {
        SagaRunner x = defined();
        for (int i = 0; i < n; i++) {
            call(x, i);
        }
        return x;
    }
}
