public final class SagaRunner {
    public static final int ACCEPTED = 0;
    public static final int REFUSED = -1;
    public static final int STALE = -2;
    public static final int FULL = -3;

    public static final int COMPENSABLE = 1;
    public static final int PIVOT = 2;

    public static final int FREE = 0;
    public static final int RUNNING = 1;
    public static final int ABORTING = 2;
    public static final int COMPENSATING = 3;
    public static final int COMMITTED = 4;
    public static final int ROLLED_BACK = 5;

    public static final int IDLE = 0;
    public static final int ACTIVE = 1;
    public static final int DONE = 2;
    public static final int FAILED = 3;
    public static final int UNDOING = 4;
    public static final int UNDONE = 5;

    public static final int INST_STATE = 0;
    public static final int INST_STAGE = 1;
    public static final int INST_PAST_PIVOT = 2;

    public static final int INFO_STATUS = 0;
    public static final int INFO_ATTEMPT = 1;
    public static final int INFO_DEADLINE = 2;
    public static final int INFO_DONE_RANK = 3;
    public static final int INFO_UNDO_RANK = 4;

    public static final int J_START = 1;
    public static final int J_OK = 2;
    public static final int J_FAIL = 3;
    public static final int J_TICK = 4;
    public static final int J_RELEASE = 5;

    private static final int MAX_SLOTS = 8;
    private static final int MAX_STEPS = 12;
    // One cell for each step of each slot: MAX_SLOTS times MAX_STEPS.
    private static final int MAX_CELLS = 96;
    private static final int MIN_RECORDS = 8;
    private static final int MAX_RECORDS = 128;
    private static final int MOST_ATTEMPTS = 4;
    private static final int LONGEST_TIMEOUT = 15;
    private static final int LONGEST_TICK = 16;
    private static final int NONE = -1;

    private final int[] stepStage = new int[MAX_STEPS];
    private final int[] stepMaxAttempts = new int[MAX_STEPS];
    private final int[] stepTimeout = new int[MAX_STEPS];
    private final int[] stepFlags = new int[MAX_STEPS];
    private int steps;
    // Kept apart from the journal, because a crash may drop the record of the only start.
    private boolean everStarted;

    private final int slots;
    private final int[] slotState = new int[MAX_SLOTS];
    private final int[] slotStage = new int[MAX_SLOTS];
    private final int[] slotPastPivot = new int[MAX_SLOTS];

    private final int[] status = new int[MAX_CELLS];
    private final int[] attempts = new int[MAX_CELLS];
    private final int[] deadline = new int[MAX_CELLS];
    private final int[] doneRank = new int[MAX_CELLS];
    private final int[] undoRank = new int[MAX_CELLS];

    private int now;

    private final int capacity;
    private final int[] recordKind = new int[MAX_RECORDS];
    private final int[] recordA = new int[MAX_RECORDS];
    private final int[] recordB = new int[MAX_RECORDS];
    private final int[] recordC = new int[MAX_RECORDS];
    private int records;
    private int durableRecords;

    public SagaRunner(int instances, int journalCapacity) {
        slots = clamp(instances, 1, MAX_SLOTS);
        capacity = clamp(journalCapacity, MIN_RECORDS, MAX_RECORDS);
    }

    public int defineStep(int stage, int maxAttempts, int timeout, int flags) {
        if (everStarted || steps == MAX_STEPS) {
            return REFUSED;
        }
        if (!isStageInOrder(stage)) {
            return REFUSED;
        }
        if (maxAttempts < 1 || maxAttempts > MOST_ATTEMPTS) {
            return REFUSED;
        }
        if (timeout < 1 || timeout > LONGEST_TIMEOUT) {
            return REFUSED;
        }
        if (flags < 0 || flags > (COMPENSABLE | PIVOT)) {
            return REFUSED;
        }
        if (breaksPivotRule(stage, flags)) {
            return REFUSED;
        }
        int step = steps;
        stepStage[step] = stage;
        stepMaxAttempts[step] = maxAttempts;
        stepTimeout[step] = timeout;
        stepFlags[step] = flags;
        steps = step + 1;
        return step;
    }

    public int stepCount() {
        return steps;
    }

    public int start() {
        if (steps == 0) {
            return REFUSED;
        }
        int slot = leastFreeSlot();
        if (slot == NONE) {
            return REFUSED;
        }
        if (records >= capacity) {
            return FULL;
        }
        append(J_START, slot, 0, 0);
        everStarted = true;
        applyStart(slot);
        return slot;
    }

    public int report(int inst, int step, int attempt, boolean ok) {
        if (!isSlot(inst) || !isStep(step)) {
            return REFUSED;
        }
        int cell = inst * MAX_STEPS + step;
        if (!isInFlight(cell) || attempt != attempts[cell]) {
            return STALE;
        }
        if (records >= capacity) {
            return FULL;
        }
        if (ok) {
            append(J_OK, inst, step, attempt);
            applyOk(inst, step);
        } else {
            append(J_FAIL, inst, step, attempt);
            applyFail(inst, step);
        }
        return status[cell];
    }

    public int tick(int n) {
        if (n < 1 || n > LONGEST_TICK) {
            return REFUSED;
        }
        if (records >= capacity) {
            return FULL;
        }
        append(J_TICK, n, 0, 0);
        return applyTick(n);
    }

    public int release(int inst) {
        if (!isSlot(inst)) {
            return REFUSED;
        }
        if (slotState[inst] != COMMITTED && slotState[inst] != ROLLED_BACK) {
            return REFUSED;
        }
        if (records >= capacity) {
            return FULL;
        }
        append(J_RELEASE, inst, 0, 0);
        freeSlot(inst);
        return ACCEPTED;
    }

    public int flush() {
        durableRecords = records;
        return durableRecords;
    }

    public int crash() {
        int lost = records - durableRecords;
        records = durableRecords;
        now = 0;
        for (int slot = 0; slot < MAX_SLOTS; slot++) {
            freeSlot(slot);
        }
        // The replay stands here and not in a method of its own, to keep calls at most six deep.
        int kept = durableRecords;
        for (int r = 0; r < kept; r++) {
            int kind = recordKind[r];
            int a = recordA[r];
            int b = recordB[r];
            if (kind == J_START) {
                applyStart(a);
            } else if (kind == J_OK) {
                applyOk(a, b);
            } else if (kind == J_FAIL) {
                applyFail(a, b);
            } else if (kind == J_TICK) {
                applyTick(a);
            } else {
                freeSlot(a);
            }
        }
        return lost;
    }

    public int clock() {
        return now;
    }

    public int instanceInfo(int inst, int what) {
        if (!isSlot(inst)) {
            return REFUSED;
        }
        if (what == INST_STATE) {
            return slotState[inst];
        }
        if (what == INST_STAGE) {
            return slotStage[inst];
        }
        if (what == INST_PAST_PIVOT) {
            return slotPastPivot[inst];
        }
        return REFUSED;
    }

    public int stepInfo(int inst, int step, int what) {
        if (!isSlot(inst) || !isStep(step)) {
            return REFUSED;
        }
        int cell = inst * MAX_STEPS + step;
        if (what == INFO_STATUS) {
            return status[cell];
        }
        if (what == INFO_ATTEMPT) {
            return attempts[cell];
        }
        if (what == INFO_DEADLINE) {
            return deadline[cell];
        }
        if (what == INFO_DONE_RANK) {
            return doneRank[cell];
        }
        if (what == INFO_UNDO_RANK) {
            return undoRank[cell];
        }
        return REFUSED;
    }

    public int journalLength() {
        return records;
    }

    public int durableLength() {
        return durableRecords;
    }

    public int journalField(int index, int field) {
        if (index < 0 || index >= records) {
            return REFUSED;
        }
        if (field == 0) {
            return recordKind[index];
        }
        if (field == 1) {
            return recordA[index];
        }
        if (field == 2) {
            return recordB[index];
        }
        if (field == 3) {
            return recordC[index];
        }
        return REFUSED;
    }

    private static int clamp(int value, int least, int greatest) {
        if (value < least) {
            return least;
        }
        if (value > greatest) {
            return greatest;
        }
        return value;
    }

    private boolean isSlot(int inst) {
        return inst >= 0 && inst < slots;
    }

    private boolean isStep(int step) {
        return step >= 0 && step < steps;
    }

    private boolean isInFlight(int cell) {
        return status[cell] == ACTIVE || status[cell] == UNDOING;
    }

    private boolean isStageInOrder(int stage) {
        if (steps == 0) {
            return stage == 0;
        }
        int last = stepStage[steps - 1];
        return stage == last || stage == last + 1;
    }

    // Stages come in order, so only the last step can share the new step's stage with a pivot.
    private boolean breaksPivotRule(int stage, int flags) {
        if (steps == 0 || stepStage[steps - 1] != stage) {
            return false;
        }
        return (flags & PIVOT) != 0 || (stepFlags[steps - 1] & PIVOT) != 0;
    }

    private int leastFreeSlot() {
        for (int slot = 0; slot < slots; slot++) {
            if (slotState[slot] == FREE) {
                return slot;
            }
        }
        return NONE;
    }

    private void append(int kind, int a, int b, int c) {
        recordKind[records] = kind;
        recordA[records] = a;
        recordB[records] = b;
        recordC[records] = c;
        records++;
    }

    private void freeSlot(int slot) {
        slotState[slot] = FREE;
        slotStage[slot] = 0;
        slotPastPivot[slot] = 0;
        for (int step = 0; step < MAX_STEPS; step++) {
            int cell = slot * MAX_STEPS + step;
            status[cell] = IDLE;
            attempts[cell] = 0;
            deadline[cell] = 0;
            doneRank[cell] = 0;
            undoRank[cell] = 0;
        }
    }

    private void applyStart(int slot) {
        slotState[slot] = RUNNING;
        slotStage[slot] = 0;
        slotPastPivot[slot] = 0;
        issueStage(slot);
    }

    private void applyOk(int slot, int step) {
        if (status[slot * MAX_STEPS + step] == UNDOING) {
            finishUndo(slot, step);
        } else {
            finishForward(slot, step);
        }
    }

    private void finishForward(int slot, int step) {
        int cell = slot * MAX_STEPS + step;
        status[cell] = DONE;
        deadline[cell] = 0;
        doneRank[cell] = nextRank(doneRank, slot);
        if ((stepFlags[step] & PIVOT) != 0) {
            slotPastPivot[slot] = 1;
        }
        if (slotState[slot] == RUNNING) {
            advance(slot);
        } else {
            settle(slot);
        }
    }

    private void finishUndo(int slot, int step) {
        int cell = slot * MAX_STEPS + step;
        status[cell] = UNDONE;
        deadline[cell] = 0;
        undoRank[cell] = nextRank(undoRank, slot);
        nextUndo(slot);
    }

    private void applyFail(int slot, int step) {
        int cell = slot * MAX_STEPS + step;
        if (mayRetry(slot, step)) {
            attempts[cell]++;
            deadline[cell] = now + stepTimeout[step];
            return;
        }
        status[cell] = FAILED;
        deadline[cell] = 0;
        slotState[slot] = ABORTING;
        settle(slot);
    }

    private boolean mayRetry(int slot, int step) {
        int cell = slot * MAX_STEPS + step;
        if (status[cell] == UNDOING) {
            return true;
        }
        if (slotState[slot] != RUNNING) {
            return false;
        }
        return slotPastPivot[slot] == 1 || attempts[cell] < stepMaxAttempts[step];
    }

    private int applyTick(int n) {
        now += n;
        int timeouts = 0;
        for (int slot = 0; slot < slots; slot++) {
            for (int step = 0; step < steps; step++) {
                int cell = slot * MAX_STEPS + step;
                if (isInFlight(cell) && deadline[cell] <= now) {
                    applyFail(slot, step);
                    timeouts++;
                }
            }
        }
        return timeouts;
    }

    private void advance(int slot) {
        if (!isStageDone(slot)) {
            return;
        }
        if (slotStage[slot] == stepStage[steps - 1]) {
            slotState[slot] = COMMITTED;
            return;
        }
        slotStage[slot]++;
        issueStage(slot);
    }

    private boolean isStageDone(int slot) {
        for (int step = 0; step < steps; step++) {
            if (stepStage[step] == slotStage[slot] && status[slot * MAX_STEPS + step] != DONE) {
                return false;
            }
        }
        return true;
    }

    private void issueStage(int slot) {
        for (int step = 0; step < steps; step++) {
            if (stepStage[step] == slotStage[slot]) {
                beginAttempts(slot, step, ACTIVE);
            }
        }
    }

    private void beginAttempts(int slot, int step, int newStatus) {
        int cell = slot * MAX_STEPS + step;
        status[cell] = newStatus;
        attempts[cell] = 1;
        deadline[cell] = now + stepTimeout[step];
    }

    private void settle(int slot) {
        if (hasActiveStep(slot)) {
            return;
        }
        slotState[slot] = COMPENSATING;
        nextUndo(slot);
    }

    private boolean hasActiveStep(int slot) {
        for (int step = 0; step < steps; step++) {
            if (status[slot * MAX_STEPS + step] == ACTIVE) {
                return true;
            }
        }
        return false;
    }

    private void nextUndo(int slot) {
        int step = newestUndoable(slot);
        if (step == NONE) {
            slotState[slot] = ROLLED_BACK;
        } else {
            beginAttempts(slot, step, UNDOING);
        }
    }

    private int newestUndoable(int slot) {
        int newest = NONE;
        int newestRank = 0;
        for (int step = 0; step < steps; step++) {
            int cell = slot * MAX_STEPS + step;
            boolean undoable = status[cell] == DONE && (stepFlags[step] & COMPENSABLE) != 0;
            if (undoable && doneRank[cell] > newestRank) {
                newest = step;
                newestRank = doneRank[cell];
            }
        }
        return newest;
    }

    private int nextRank(int[] ranks, int slot) {
        int rank = 1;
        for (int step = 0; step < steps; step++) {
            if (ranks[slot * MAX_STEPS + step] != 0) {
                rank++;
            }
        }
        return rank;
    }
}
