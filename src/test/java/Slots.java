import java.util.Arrays;

/** Slots in a wanted state, all with one template of a plain stage, a pivot and a last step. */
final class Slots {
    static final int STATES = 6;
    private static final int SLOTS = 8;

    private Slots() {
    }

    static SagaRunner defined(int instances, int capacity) {
        SagaRunner x = new SagaRunner(instances, capacity);
        x.defineStep(0, 1, 15, SagaRunner.COMPENSABLE);
        x.defineStep(0, 1, 15, SagaRunner.COMPENSABLE);
        x.defineStep(1, 1, 15, SagaRunner.PIVOT);
        x.defineStep(2, 1, 15, 0);
        return x;
    }

    /** Brings a slot that has just been started to the state, with at most five records. */
    static void bring(SagaRunner x, int inst, int state) {
        if (state == SagaRunner.COMMITTED || state == SagaRunner.FREE) {
            for (int step = 0; step < 4; step++) {
                x.report(inst, step, 1, true);
            }
        } else if (state != SagaRunner.RUNNING) {
            x.report(inst, 0, 1, false);
        }
        if (state == SagaRunner.COMPENSATING || state == SagaRunner.ROLLED_BACK) {
            x.report(inst, 1, 1, true);
        }
        if (state == SagaRunner.ROLLED_BACK) {
            x.report(inst, 1, 1, true);
        }
        if (state == SagaRunner.FREE) {
            x.release(inst);
        }
        Checks.stateIs(x, inst, state);
    }

    /** Slot 0 is in state 0, slot 1 in state 1, and so on; slots 6 and 7 were never used; 21 records. */
    static SagaRunner oneInEachState() {
        SagaRunner x = defined(SLOTS, 64);
        for (int inst = 0; inst < STATES; inst++) {
            x.start();
        }
        for (int inst = 0; inst < STATES; inst++) {
            bring(x, inst, inst);
        }
        return x;
    }

    /** What the getters say of each of the eight slots. */
    static int[][] answers(SagaRunner x) {
        int[][] all = new int[SLOTS][];
        for (int inst = 0; inst < SLOTS; inst++) {
            all[inst] = answersOf(x, inst);
        }
        return all;
    }

    private static int[] answersOf(SagaRunner x, int inst) {
        int[] all = new int[3 + 12 * 5];
        int n = 0;
        for (int what = 0; what < 3; what++) {
            all[n++] = x.instanceInfo(inst, what);
        }
        for (int step = 0; step < 12; step++) {
            for (int what = 0; what < 5; what++) {
                all[n++] = x.stepInfo(inst, step, what);
            }
        }
        return all;
    }

    static void onlyChanged(int inst, int[][] before, SagaRunner x) {
        for (int slot = 0; slot < SLOTS; slot++) {
            boolean same = Arrays.equals(before[slot], answersOf(x, slot));
            Checks.holds("that slot " + inst + " alone changes, seen in slot " + slot, same == (slot != inst));
        }
    }
}
