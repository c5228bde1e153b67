import java.util.ArrayList;
import java.util.List;

/**
 * A second build of the document's rules, as plainly as the Java library allows. It rebuilds after a crash by
 * making the kept calls again on a new model, as promise 8 puts it, and so shares no shortcut with SagaRunner.
 */
final class Model {
    private record Step(int stage, int maxAttempts, int timeout, int flags) {
        boolean has(int flag) {
            return (flags & flag) != 0;
        }
    }

    private static final class Run {
        int status, attempt, deadline, doneRank, undoRank;

        boolean inFlight() {
            return status == SagaRunner.ACTIVE || status == SagaRunner.UNDOING;
        }
    }

    private static final class Slot {
        int state, stage, pastPivot;
        final List<Run> runs = new ArrayList<>();
    }

    private final int capacity;
    private final List<Step> template = new ArrayList<>();
    private final List<Slot> slots = new ArrayList<>();
    private List<int[]> journal = new ArrayList<>();
    private int durable = 0;
    private int clock = 0;
    private boolean everStarted = false;

    Model(int instances, int journalCapacity) {
        capacity = Math.min(128, Math.max(8, journalCapacity));
        int count = Math.min(8, Math.max(1, instances));
        for (int i = 0; i < count; i++) {
            slots.add(new Slot());
        }
    }

    int defineStep(int stage, int maxAttempts, int timeout, int flags) {
        boolean stageFits = template.isEmpty() ? stage == 0 : stage == lastStage() || stage == lastStage() + 1;
        boolean numbersFit = maxAttempts >= 1 && maxAttempts <= 4 && timeout >= 1 && timeout <= 15
                && flags >= 0 && flags <= 3;
        if (everStarted || template.size() == 12 || !stageFits || !numbersFit) {
            return SagaRunner.REFUSED;
        }
        boolean stageHasStep = template.stream().anyMatch(s -> s.stage() == stage);
        boolean stageHasPivot = template.stream().anyMatch(s -> s.stage() == stage && s.has(SagaRunner.PIVOT));
        if ((flags & SagaRunner.PIVOT) != 0 && stageHasStep || stageHasPivot) {
            return SagaRunner.REFUSED;
        }
        template.add(new Step(stage, maxAttempts, timeout, flags));
        slots.forEach(s -> s.runs.add(new Run()));
        return template.size() - 1;
    }

    int start() {
        int free = 0;
        while (free < slots.size() && slots.get(free).state != SagaRunner.FREE) {
            free++;
        }
        if (template.isEmpty() || free == slots.size()) {
            return SagaRunner.REFUSED;
        }
        if (journal.size() == capacity) {
            return SagaRunner.FULL;
        }
        journal.add(new int[] {SagaRunner.J_START, free, 0, 0});
        everStarted = true;
        slots.get(free).state = SagaRunner.RUNNING;
        issueStage(slots.get(free));
        return free;
    }

    int report(int inst, int step, int attempt, boolean ok) {
        if (inst < 0 || inst >= slots.size() || step < 0 || step >= template.size()) {
            return SagaRunner.REFUSED;
        }
        Slot slot = slots.get(inst);
        Run run = slot.runs.get(step);
        if (!run.inFlight() || run.attempt != attempt) {
            return SagaRunner.STALE;
        }
        if (journal.size() == capacity) {
            return SagaRunner.FULL;
        }
        journal.add(new int[] {ok ? SagaRunner.J_OK : SagaRunner.J_FAIL, inst, step, attempt});
        if (ok) {
            succeed(slot, step);
        } else {
            fail(slot, step);
        }
        return run.status;
    }

    int tick(int n) {
        if (n < 1 || n > 16) {
            return SagaRunner.REFUSED;
        }
        if (journal.size() == capacity) {
            return SagaRunner.FULL;
        }
        journal.add(new int[] {SagaRunner.J_TICK, n, 0, 0});
        clock += n;
        int timeouts = 0;
        for (Slot slot : slots) {
            for (int step = 0; step < template.size(); step++) {
                Run run = slot.runs.get(step);
                if (run.inFlight() && run.deadline <= clock) {
                    fail(slot, step);
                    timeouts++;
                }
            }
        }
        return timeouts;
    }

    int release(int inst) {
        if (inst < 0 || inst >= slots.size()) {
            return SagaRunner.REFUSED;
        }
        int state = slots.get(inst).state;
        if (state != SagaRunner.COMMITTED && state != SagaRunner.ROLLED_BACK) {
            return SagaRunner.REFUSED;
        }
        if (journal.size() == capacity) {
            return SagaRunner.FULL;
        }
        journal.add(new int[] {SagaRunner.J_RELEASE, inst, 0, 0});
        Slot free = new Slot();
        template.forEach(s -> free.runs.add(new Run()));
        slots.set(inst, free);
        return SagaRunner.ACCEPTED;
    }

    int flush() {
        durable = journal.size();
        return durable;
    }

    int crash() {
        int lost = journal.size() - durable;
        Model fresh = new Model(slots.size(), capacity);
        template.forEach(s -> fresh.defineStep(s.stage(), s.maxAttempts(), s.timeout(), s.flags()));
        journal.subList(0, durable).forEach(fresh::callAgain);
        slots.clear();
        slots.addAll(fresh.slots);
        journal = fresh.journal;
        clock = fresh.clock;
        return lost;
    }

    private void callAgain(int[] r) {
        switch (r[0]) {
            case SagaRunner.J_START -> start();
            case SagaRunner.J_OK -> report(r[1], r[2], r[3], true);
            case SagaRunner.J_FAIL -> report(r[1], r[2], r[3], false);
            case SagaRunner.J_TICK -> tick(r[1]);
            default -> release(r[1]);
        }
    }

    private void begin(Slot slot, int step, int status) {
        Run run = slot.runs.get(step);
        run.status = status;
        run.attempt = 1;
        run.deadline = clock + template.get(step).timeout();
    }

    private void issueStage(Slot slot) {
        for (int step = 0; step < template.size(); step++) {
            if (template.get(step).stage() == slot.stage) {
                begin(slot, step, SagaRunner.ACTIVE);
            }
        }
    }

    private void succeed(Slot slot, int step) {
        Run run = slot.runs.get(step);
        if (run.status == SagaRunner.UNDOING) {
            run.status = SagaRunner.UNDONE;
            run.undoRank = 1 + (int) slot.runs.stream().filter(r -> r.undoRank != 0).count();
            nextUndo(slot);
            return;
        }
        run.status = SagaRunner.DONE;
        run.doneRank = 1 + (int) slot.runs.stream().filter(r -> r.doneRank != 0).count();
        if (template.get(step).has(SagaRunner.PIVOT)) {
            slot.pastPivot = 1;
        }
        if (slot.state == SagaRunner.ABORTING) {
            settle(slot);
        } else if (slot.state == SagaRunner.RUNNING && stageDone(slot)) {
            if (slot.stage == lastStage()) {
                slot.state = SagaRunner.COMMITTED;
            } else {
                slot.stage++;
                issueStage(slot);
            }
        }
    }

    private boolean stageDone(Slot slot) {
        for (int step = 0; step < template.size(); step++) {
            if (template.get(step).stage() == slot.stage && slot.runs.get(step).status != SagaRunner.DONE) {
                return false;
            }
        }
        return true;
    }

    private void fail(Slot slot, int step) {
        Run run = slot.runs.get(step);
        boolean underLimit = slot.pastPivot == 1 || run.attempt < template.get(step).maxAttempts();
        if (run.status == SagaRunner.UNDOING || slot.state == SagaRunner.RUNNING && underLimit) {
            run.attempt++;
            run.deadline = clock + template.get(step).timeout();
            return;
        }
        run.status = SagaRunner.FAILED;
        if (slot.state == SagaRunner.RUNNING) {
            slot.state = SagaRunner.ABORTING;
        }
        settle(slot);
    }

    private void settle(Slot slot) {
        if (slot.runs.stream().noneMatch(r -> r.status == SagaRunner.ACTIVE)) {
            slot.state = SagaRunner.COMPENSATING;
            nextUndo(slot);
        }
    }

    private void nextUndo(Slot slot) {
        for (int rank = template.size(); rank >= 1; rank--) {
            for (int step = 0; step < template.size(); step++) {
                Run run = slot.runs.get(step);
                boolean undoable = run.status == SagaRunner.DONE && template.get(step).has(SagaRunner.COMPENSABLE);
                if (undoable && run.doneRank == rank) {
                    begin(slot, step, SagaRunner.UNDOING);
                    return;
                }
            }
        }
        slot.state = SagaRunner.ROLLED_BACK;
    }

    int attemptOf(int inst, int step) {
        return slots.get(inst).runs.get(step).attempt;
    }

    boolean isInFlight(int inst, int step) {
        return slots.get(inst).runs.get(step).inFlight();
    }

    boolean isCompensable(int step) {
        return template.get(step).has(SagaRunner.COMPENSABLE);
    }

    int lastStage() {
        return template.isEmpty() ? 0 : template.get(template.size() - 1).stage();
    }

    int slotCount() {
        return slots.size();
    }

    int stepCount() {
        return template.size();
    }

    private int instanceInfo(int inst, int what) {
        if (inst < 0 || inst >= slots.size() || what < 0 || what > 2) {
            return SagaRunner.REFUSED;
        }
        Slot s = slots.get(inst);
        return new int[] {s.state, s.stage, s.pastPivot}[what];
    }

    private int stepInfo(int inst, int step, int what) {
        if (inst < 0 || inst >= slots.size() || step < 0 || step >= template.size() || what < 0 || what > 4) {
            return SagaRunner.REFUSED;
        }
        Run r = slots.get(inst).runs.get(step);
        return new int[] {r.status, r.attempt, r.inFlight() ? r.deadline : 0, r.doneRank, r.undoRank}[what];
    }

    private int journalField(int index, int field) {
        if (index < 0 || index >= journal.size() || field < 0 || field > 3) {
            return SagaRunner.REFUSED;
        }
        return journal.get(index)[field];
    }

    /** The same answers in the same order as Checks.answers gives for a SagaRunner. */
    int[] answers() {
        int[] numbers = {template.size(), clock, journal.size(), durable};
        return Checks.answers(numbers, this::instanceInfo, this::stepInfo, this::journalField);
    }
}
