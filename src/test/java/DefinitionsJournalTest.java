import java.util.List;
import java.util.function.ToIntFunction;

/** Of the definitions: the journal, and what a refused call leaves alone. */
public final class DefinitionsJournalTest {
    private static final int[] CAPACITIES = {8, 9, 64, 127, 128};

    /** Calls that are refused in every state of the scenario. */
    private static final List<ToIntFunction<SagaRunner>> REFUSED_CALLS = List.of(
            x -> x.defineStep(4, 1, 1, 0),
            x -> x.defineStep(2, 0, 1, 0),
            x -> x.defineStep(2, 1, 16, 0),
            x -> x.defineStep(2, 1, 1, 4),
            x -> x.tick(0),
            x -> x.tick(17),
            x -> x.release(-1),
            x -> x.release(3),
            x -> x.release(2),
            x -> x.report(-1, 0, 1, true),
            x -> x.report(3, 0, 1, false),
            x -> x.report(0, -1, 1, true),
            x -> x.report(0, 4, 1, false),
            x -> x.instanceInfo(3, 0),
            x -> x.stepInfo(0, 4, 0),
            x -> x.journalField(64, 0));

    private static final List<ToIntFunction<SagaRunner>> STALE_CALLS = List.of(
            x -> x.report(0, 0, 0, true),
            x -> x.report(1, 1, 99, false),
            x -> x.report(2, 0, 1, true),
            x -> x.report(2, 3, 0, false));

    public static void main(String[] args) {
        sentences().run();
    }

    static Sentences sentences() {
        String full = "Such a call, when the journal already holds journalCapacity records, answers FULL and changes"
                + " nothing.";
        String refused = "Every refused call (answering REFUSED, STALE or FULL) changes nothing at all.";
        return new Sentences("Definitions")
                .test("The journal holds at most journalCapacity records of 4 fields (kind, a, b, c).",
                        DefinitionsJournalTest::capacityIsReachedAndNotPassed)
                .test("The first durableLength records are durable.", DefinitionsJournalTest::durableRecordsAreTheFirst)
                .test("Each accepted `start`, `report`, `tick` and `release` appends exactly one record",
                        DefinitionsJournalTest::acceptedCallsAppendOneRecord)
                .test("no other call appends", DefinitionsJournalTest::otherCallsAppendNone)
                .test(full, "start", DefinitionsJournalTest::startOnAFullJournal)
                .test(full, "report", DefinitionsJournalTest::reportOnAFullJournal)
                .test(full, "tick", DefinitionsJournalTest::tickOnAFullJournal)
                .test(full, "release", DefinitionsJournalTest::releaseOnAFullJournal)
                .test(refused, "REFUSED", () -> leavesNoTrace(REFUSED_CALLS, SagaRunner.REFUSED))
                .test(refused, "STALE", () -> leavesNoTrace(STALE_CALLS, SagaRunner.STALE))
                .test(refused, "FULL", DefinitionsJournalTest::fullCallsLeaveNoTrace)
                .test(refused, "a start() that was not accepted", DefinitionsJournalTest::refusedStartClosesNothing)
                .test(refused, "before the first start()", DefinitionsJournalTest::refusedCallsCloseNothing);
    }

    private static void capacityIsReachedAndNotPassed() {
        for (int capacity : CAPACITIES) {
            SagaRunner x = new SagaRunner(1, capacity);
            for (int i = 0; i < capacity; i++) {
                Checks.due("tick", x.tick(1 + i % 16), 0);
            }
            Checks.refused(x, "one tick more", () -> x.tick(1), SagaRunner.FULL);
            Checks.lengthsAre(x, capacity, 0);
            for (int i = 0; i < capacity; i++) {
                Checks.recordIs(x, i, SagaRunner.J_TICK, 1 + i % 16, 0, 0);
            }
            Checks.due("a fifth field", x.journalField(0, 4), SagaRunner.REFUSED);
        }
    }

    private static void durableRecordsAreTheFirst() {
        for (int durable = 0; durable <= 8; durable++) {
            SagaRunner x = new SagaRunner(1, 8);
            for (int i = 0; i < durable; i++) {
                x.tick(i + 1);
            }
            x.flush();
            Checks.fillWithTicks(x, 8);
            Checks.lengthsAre(x, 8, durable);
            Checks.due("crash()", x.crash(), 8 - durable);
            Checks.lengthsAre(x, durable, durable);
            for (int i = 0; i < durable; i++) {
                Checks.recordIs(x, i, SagaRunner.J_TICK, i + 1, 0, 0);
            }
        }
    }

    private static void acceptedCallsAppendOneRecord() {
        SagaRunner x = new SagaRunner(2, 16);
        x.defineStep(0, 2, 5, 1);
        x.defineStep(0, 1, 5, 1);
        x.start();
        Checks.lengthsAre(x, 1, 0);
        x.report(0, 0, 1, false);
        Checks.lengthsAre(x, 2, 0);
        x.report(0, 0, 2, true);
        Checks.lengthsAre(x, 3, 0);
        Checks.due("a tick with a timeout, which is no record of its own", x.tick(16), 1);
        Checks.lengthsAre(x, 4, 0);
        x.report(0, 0, 1, true);
        Checks.lengthsAre(x, 5, 0);
        Checks.due("release(0)", x.release(0), SagaRunner.ACCEPTED);
        Checks.lengthsAre(x, 6, 0);
    }

    private static void otherCallsAppendNone() {
        SagaRunner x = Scenario.defined();
        Checks.lengthsAre(x, 0, 0);
        x.start();
        x.flush();
        x.flush();
        x.crash();
        Checks.lengthsAre(x, 1, 1);
        x.clock();
        x.stepCount();
        x.instanceInfo(0, 0);
        x.stepInfo(0, 0, 0);
        x.journalField(0, 0);
        REFUSED_CALLS.forEach(call -> call.applyAsInt(x));
        STALE_CALLS.forEach(call -> call.applyAsInt(x));
        Checks.lengthsAre(x, 1, 1);
    }

    /**
     * Room for one record more. Slot 0 is COMMITTED, slot 1 is past its pivot with a step in flight, slot 2 is FREE:
     * each of the four calls can be accepted.
     */
    private static SagaRunner nearlyFull(int capacity) {
        SagaRunner x = new SagaRunner(3, capacity);
        x.defineStep(0, 1, 15, SagaRunner.PIVOT);
        x.defineStep(1, 1, 15, 0);
        x.start();
        x.start();
        x.report(0, 0, 1, true);
        x.report(0, 1, 1, true);
        x.report(1, 0, 1, true);
        x.flush();
        for (int i = x.journalLength(); i < capacity - 1; i++) {
            reportSecondStep(x, false);
        }
        return x;
    }

    private static int reportSecondStep(SagaRunner x, boolean ok) {
        return x.report(1, 1, x.stepInfo(1, 1, SagaRunner.INFO_ATTEMPT), ok);
    }

    /** The call is accepted as the last record that has room, and answers FULL one record later. */
    private static void fullAtCapacity(String call, ToIntFunction<SagaRunner> made, int accepted) {
        for (int capacity : CAPACITIES) {
            SagaRunner room = nearlyFull(capacity);
            Checks.due(call + " as the last record", made.applyAsInt(room), accepted);
            Checks.lengthsAre(room, capacity, 5);

            SagaRunner full = nearlyFull(capacity);
            full.tick(1);
            Checks.lengthsAre(full, capacity, 5);
            Checks.refused(full, call, () -> made.applyAsInt(full), SagaRunner.FULL);
            Checks.refused(full, call + " again", () -> made.applyAsInt(full), SagaRunner.FULL);
        }
    }

    private static void startOnAFullJournal() {
        fullAtCapacity("start()", SagaRunner::start, 2);
    }

    private static void reportOnAFullJournal() {
        fullAtCapacity("report(1, 1, .., true)", x -> reportSecondStep(x, true), SagaRunner.DONE);
        fullAtCapacity("report(1, 1, .., false)", x -> reportSecondStep(x, false), SagaRunner.ACTIVE);
    }

    private static void tickOnAFullJournal() {
        fullAtCapacity("tick(1)", x -> x.tick(1), 0);
        fullAtCapacity("tick(16)", x -> x.tick(16), 1);
    }

    private static void releaseOnAFullJournal() {
        fullAtCapacity("release(0)", x -> x.release(0), SagaRunner.ACCEPTED);
    }

    /** An object that hears refused calls between the others stays alike to one that does not. */
    private static void leavesNoTrace(List<ToIntFunction<SagaRunner>> calls, int want) {
        SagaRunner x = Scenario.defined();
        for (int i = 0; i < Scenario.CALLS; i++) {
            for (int k = 0; k < calls.size(); k++) {
                ToIntFunction<SagaRunner> call = calls.get(k);
                Checks.refused(x, "call " + k + " of the list", () -> call.applyAsInt(x), want);
            }
            Scenario.call(x, i);
            if (i == 11) {
                x.flush();
            }
        }
        SagaRunner twin = Scenario.afterCalls(12);
        twin.flush();
        for (int i = 12; i < Scenario.CALLS; i++) {
            Scenario.call(twin, i);
        }
        Checks.unchanged("hearing refused calls", Checks.answers(twin), x);
        Checks.due("crash()", x.crash(), twin.crash());
        Checks.unchanged("hearing refused calls before a crash", Checks.answers(twin), x);
    }

    private static void fullCallsLeaveNoTrace() {
        SagaRunner x = nearlyFull(8);
        x.tick(1);
        Checks.due("start()", x.start(), SagaRunner.FULL);
        Checks.due("report ok", reportSecondStep(x, true), SagaRunner.FULL);
        Checks.due("report fail", reportSecondStep(x, false), SagaRunner.FULL);
        Checks.due("tick(16)", x.tick(16), SagaRunner.FULL);
        Checks.due("release(0)", x.release(0), SagaRunner.FULL);
        SagaRunner twin = nearlyFull(8);
        twin.tick(1);
        Checks.unchanged("answering FULL", Checks.answers(twin), x);
        Checks.due("crash()", x.crash(), twin.crash());
        Checks.unchanged("answering FULL before a crash", Checks.answers(twin), x);
        Checks.due("start() with room again", x.start(), 2);
    }

    private static void refusedStartClosesNothing() {
        SagaRunner x = new SagaRunner(1, 8);
        Checks.due("start() without a step", x.start(), SagaRunner.REFUSED);
        Checks.due("defineStep", x.defineStep(0, 1, 1, 0), 0);
        Checks.fillWithTicks(x, 8);
        Checks.due("start() on a full journal", x.start(), SagaRunner.FULL);
        Checks.due("defineStep", x.defineStep(0, 1, 1, 0), 1);
    }

    private static void refusedCallsCloseNothing() {
        SagaRunner x = Scenario.defined();
        REFUSED_CALLS.forEach(call -> call.applyAsInt(x));
        STALE_CALLS.forEach(call -> call.applyAsInt(x));
        Checks.unchanged("hearing refused calls", Checks.answers(Scenario.defined()), x);
        Checks.due("defineStep", x.defineStep(2, 1, 1, 0), 4);
        Checks.due("start()", x.start(), 0);
    }
}
