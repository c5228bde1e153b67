import java.util.ArrayList;
import java.util.Arrays;
import java.util.List;

/** Runs of calls, the same every time, made both on a SagaRunner and on the Model, which must answer alike. */
public final class ModelTest {
    private static final int RUNS = 1500;
    private static final int CALLS = 220;

    private static long seed = 20261115L;

    private final SagaRunner x;
    private final Model model;
    private final List<String> calls = new ArrayList<>();
    // How often each state was seen at the end of a call, so that a run that meets too little is noticed.
    private static final int[] statesSeen = new int[6];

    private ModelTest(int instances, int capacity) {
        x = new SagaRunner(instances, capacity);
        model = new Model(instances, capacity);
        calls.add("new SagaRunner(" + instances + ", " + capacity + ")");
    }

    public static void main(String[] args) {
        int failures = 0;
        for (int run = 0; run < RUNS && failures < 3; run++) {
            int instances = pick(4) == 0 ? pick(14) - 2 : 1 + pick(3);
            int capacity = pick(3) == 0 ? pick(60) : 100 + pick(40);
            if (!new ModelTest(instances, capacity).run()) {
                failures++;
            }
        }
        Checks.due("runs that differ from the model", failures, 0);
        for (int state = 0; state < 6; state++) {
            Checks.holds("that the runs meet state " + state, statesSeen[state] > 1000);
        }
        Checks.end();
    }

    private static int pick(int bound) {
        seed = seed * 6364136223846793005L + 1442695040888963407L;
        return (int) ((seed >>> 33) % bound);
    }

    private boolean run() {
        int wanted = 1 + pick(12);
        for (int i = 0; i < 3 * wanted && model.stepCount() < wanted; i++) {
            if (!define() || pick(20) == 0 && !tick(1 + pick(16))) {
                return false;
            }
        }
        for (int i = 0; i < CALLS; i++) {
            if (!oneCall() || !promiseFourHolds()) {
                return false;
            }
        }
        return true;
    }

    private boolean oneCall() {
        int kind = pick(100);
        if (kind < 62) {
            return reportInFlight();
        }
        if (kind < 66) {
            return report(pick(12) - 2, pick(16) - 2, pick(6) - 1, pick(2) == 0);
        }
        if (kind < 76) {
            return tick(1 + pick(4));
        }
        if (kind < 78) {
            return tick(pick(20) - 1);
        }
        if (kind < 86) {
            return same("start()", x.start(), model.start());
        }
        if (kind < 92) {
            int inst = pick(10) - 1;
            return same("release(" + inst + ")", x.release(inst), model.release(inst));
        }
        if (kind < 95) {
            return same("flush()", x.flush(), model.flush());
        }
        if (kind < 98) {
            return define();
        }
        return same("crash()", x.crash(), model.crash());
    }

    private boolean define() {
        int stage = pick(15) == 0 ? pick(16) - 2 : model.lastStage() + pick(2);
        int attempts = pick(15) == 0 ? pick(7) - 1 : 1 + pick(4);
        int timeout = pick(15) == 0 ? pick(19) - 1 : 1 + pick(15);
        int flags = pick(15) == 0 ? pick(7) - 1 : pick(4) == 0 ? pick(4) : pick(2);
        String call = "defineStep(" + stage + ", " + attempts + ", " + timeout + ", " + flags + ")";
        return same(call, x.defineStep(stage, attempts, timeout, flags),
                model.defineStep(stage, attempts, timeout, flags));
    }

    private boolean reportInFlight() {
        List<int[]> flying = new ArrayList<>();
        for (int inst = 0; inst < model.slotCount(); inst++) {
            for (int step = 0; step < model.stepCount(); step++) {
                if (model.isInFlight(inst, step)) {
                    flying.add(new int[] {inst, step});
                }
            }
        }
        if (flying.isEmpty()) {
            return true;
        }
        int[] chosen = flying.get(pick(flying.size()));
        int attempt = model.attemptOf(chosen[0], chosen[1]) - (pick(20) == 0 ? 1 : 0);
        return report(chosen[0], chosen[1], attempt, pick(4) != 0);
    }

    private boolean report(int inst, int step, int attempt, boolean ok) {
        String call = "report(" + inst + ", " + step + ", " + attempt + ", " + ok + ")";
        return same(call, x.report(inst, step, attempt, ok), model.report(inst, step, attempt, ok));
    }

    private boolean tick(int n) {
        return same("tick(" + n + ")", x.tick(n), model.tick(n));
    }

    private boolean same(String call, int got, int want) {
        calls.add(call + " = " + got);
        if (got == want && Arrays.equals(Checks.answers(x), model.answers())) {
            return true;
        }
        System.out.println("differs from the model, due answer " + want + ": " + calls);
        return false;
    }

    /** What promise 4 says of every COMMITTED and every ROLLED_BACK instance. */
    private boolean promiseFourHolds() {
        for (int inst = 0; inst < model.slotCount(); inst++) {
            int state = x.instanceInfo(inst, SagaRunner.INST_STATE);
            statesSeen[state]++;
            boolean held = true;
            if (state == SagaRunner.COMMITTED) {
                held = committedHolds(inst);
            } else if (state == SagaRunner.ROLLED_BACK) {
                held = rolledBackHolds(inst);
            }
            if (!held) {
                System.out.println("promise 4's result does not hold in slot " + inst + ": " + calls);
                return false;
            }
        }
        return true;
    }

    private boolean committedHolds(int inst) {
        for (int step = 0; step < x.stepCount(); step++) {
            if (x.stepInfo(inst, step, SagaRunner.INFO_STATUS) != SagaRunner.DONE) {
                return false;
            }
        }
        return true;
    }

    private boolean rolledBackHolds(int inst) {
        int[] doneOfUndo = new int[14];
        int undone = 0;
        for (int step = 0; step < x.stepCount(); step++) {
            int status = x.stepInfo(inst, step, SagaRunner.INFO_STATUS);
            int done = x.stepInfo(inst, step, SagaRunner.INFO_DONE_RANK);
            int undo = x.stepInfo(inst, step, SagaRunner.INFO_UNDO_RANK);
            boolean compensated = done != 0 && model.isCompensable(step);
            if (status == SagaRunner.ACTIVE || status == SagaRunner.UNDOING || compensated != (undo != 0)) {
                return false;
            }
            if (undo != 0) {
                doneOfUndo[undo] = done;
                undone++;
            }
        }
        for (int undo = 1; undo <= undone; undo++) {
            if (doneOfUndo[undo] <= doneOfUndo[undo + 1]) {
                return false;
            }
        }
        return x.instanceInfo(inst, SagaRunner.INST_PAST_PIVOT) == 0;
    }
}
