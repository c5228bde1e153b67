/** Of the document's first part, "What it is": each sentence as a run from end to end. */
public final class OverviewTest {
    public static void main(String[] args) {
        sentences().run();
    }

    static Sentences sentences() {
        Sentences all = new Sentences("What it is");
        forward(all);
        undo(all);
        constants(all);
        return all;
    }

    private static void forward(Sentences all) {
        all.test("instances that share one step template", OverviewTest::slotsShareTheTemplate)
                .test("Up to eight instances (slots) each run one long-running transaction built from the same template"
                        + " of up to twelve steps arranged in stages.", OverviewTest::eightTimesTwelveStepsCommit)
                .test("The steps of one stage run in parallel", OverviewTest::stepsOfAStageAreInFlightTogether)
                .test("the next stage is issued only when every step of the current stage is DONE",
                        OverviewTest::nextStageWaitsForEveryStep)
                .test("a result for an attempt that already failed or timed out is recognised as stale and dropped",
                        OverviewTest::lateResultsAreDropped)
                .test("A clock driven by `tick` times out attempts; a timeout counts as a failure",
                        OverviewTest::timeoutIsAFailure)
                .test("failed forward attempts are retried up to each step's limit while the instance is RUNNING",
                        OverviewTest::eachStepHasItsLimit)
                .test("once it is ABORTING a failed attempt is not retried", OverviewTest::abortingDoesNotRetry);
    }

    private static void undo(Sentences all) {
        all.test("When a forward step runs out of attempts before a pivot step has completed, the instance stops"
                        + " issuing work.", OverviewTest::abortIssuesNothing)
                .test("It waits for its other in-flight steps to settle", OverviewTest::abortWaitsForTheOthers)
                .test("then runs compensations one at a time for its completed compensable steps, in exact reverse"
                        + " order of completion, retrying each compensation until it succeeds",
                        OverviewTest::undoGoesBackwardsOneByOne)
                .test("Once a pivot step has completed, forward failures are only retried, and the instance can only"
                        + " move forward to commit.", OverviewTest::pastThePivotItCommits)
                .test("Every accepted `start`, `report`, `tick` and `release` is written to a bounded journal.",
                        OverviewTest::acceptedCallsAreWritten)
                .test("The flushed (durable) prefix of the journal survives a simulated `crash()`, after which the"
                        + " state is rebuilt by replaying that prefix.", OverviewTest::crashGoesBackToTheFlush);
    }

    private static void constants(Sentences all) {
        all.test("Public constants: - Answers: `ACCEPTED = 0`, `REFUSED = -1`, `STALE = -2`, `FULL = -3`.",
                        OverviewTest::answersAreNumbered)
                .test("- Step flags: `COMPENSABLE = 1`, `PIVOT = 2`.", OverviewTest::flagsAreNumbered)
                .test("- Instance states: `FREE = 0`, `RUNNING = 1`, `ABORTING = 2`, `COMPENSATING = 3`,"
                        + " `COMMITTED = 4`, `ROLLED_BACK = 5`.", OverviewTest::statesAreNumbered)
                .test("- Step statuses: `IDLE = 0`, `ACTIVE = 1`, `DONE = 2`, `FAILED = 3`, `UNDOING = 4`,"
                        + " `UNDONE = 5`.", OverviewTest::statusesAreNumbered)
                .test("- `instanceInfo` selectors: `INST_STATE = 0`, `INST_STAGE = 1`, `INST_PAST_PIVOT = 2`.",
                        OverviewTest::instanceSelectorsAreNumbered)
                .test("- `stepInfo` selectors: `INFO_STATUS = 0`, `INFO_ATTEMPT = 1`, `INFO_DEADLINE = 2`,"
                        + " `INFO_DONE_RANK = 3`, `INFO_UNDO_RANK = 4`.", OverviewTest::stepSelectorsAreNumbered)
                .test("- Journal record kinds: `J_START = 1`, `J_OK = 2`, `J_FAIL = 3`, `J_TICK = 4`,"
                        + " `J_RELEASE = 5`.", OverviewTest::kindsAreNumbered);
    }

    private static void reportIs(SagaRunner x, int step, int attempt, boolean ok, int want) {
        Checks.due("report(0, " + step + ", " + attempt + ", " + ok + ")", x.report(0, step, attempt, ok), want);
    }

    private static void statusIs(SagaRunner x, int step, int want) {
        Checks.due("status of step " + step, x.stepInfo(0, step, SagaRunner.INFO_STATUS), want);
    }

    /** Stage 0 has steps 0, 1 and 2, stage 1 has step 3; only step 1 may be tried twice. */
    private static SagaRunner threeAndOne() {
        SagaRunner x = new SagaRunner(1, 64);
        x.defineStep(0, 1, 15, SagaRunner.COMPENSABLE);
        x.defineStep(0, 2, 15, SagaRunner.COMPENSABLE);
        x.defineStep(0, 1, 15, SagaRunner.COMPENSABLE);
        x.defineStep(1, 1, 15, 0);
        x.start();
        return x;
    }

    private static void slotsShareTheTemplate() {
        SagaRunner x = new SagaRunner(2, 64);
        x.defineStep(0, 2, 3, SagaRunner.COMPENSABLE);
        x.defineStep(1, 1, 4, 0);
        for (int inst = 0; inst < 2; inst++) {
            x.start();
            Checks.stepIs(x, inst, 0, SagaRunner.ACTIVE, 1, 3, 0, 0);
            x.report(inst, 0, 1, false);
            x.report(inst, 0, 2, true);
            Checks.stepIs(x, inst, 1, SagaRunner.ACTIVE, 1, 4, 0, 0);
            x.report(inst, 1, 1, false);
            Checks.stepIs(x, inst, 0, SagaRunner.UNDOING, 1, 3, 1, 0);
        }
    }

    private static void eightTimesTwelveStepsCommit() {
        SagaRunner x = new SagaRunner(8, 128);
        for (int step = 0; step < 12; step++) {
            x.defineStep(step / 3, 1, 15, SagaRunner.COMPENSABLE);
        }
        for (int inst = 0; inst < 8; inst++) {
            Checks.due("start()", x.start(), inst);
        }
        Checks.refused(x, "a ninth start()", x::start, SagaRunner.REFUSED);
        for (int step = 0; step < 12; step++) {
            for (int inst = 0; inst < 8; inst++) {
                Checks.slotIs(x, inst, SagaRunner.RUNNING, step / 3, 0);
                Checks.due("report", x.report(inst, step, 1, true), SagaRunner.DONE);
            }
        }
        for (int inst = 0; inst < 8; inst++) {
            Checks.slotIs(x, inst, SagaRunner.COMMITTED, 3, 0);
        }
    }

    private static void stepsOfAStageAreInFlightTogether() {
        SagaRunner x = threeAndOne();
        for (int step = 0; step < 3; step++) {
            statusIs(x, step, SagaRunner.ACTIVE);
        }
        statusIs(x, 3, SagaRunner.IDLE);
    }

    private static void nextStageWaitsForEveryStep() {
        for (int last = 0; last < 3; last++) {
            SagaRunner x = threeAndOne();
            reportIs(x, (last + 1) % 3, 1, true, SagaRunner.DONE);
            statusIs(x, 3, SagaRunner.IDLE);
            reportIs(x, (last + 2) % 3, 1, true, SagaRunner.DONE);
            statusIs(x, 3, SagaRunner.IDLE);
            reportIs(x, last, 1, true, SagaRunner.DONE);
            statusIs(x, 3, SagaRunner.ACTIVE);
        }
    }

    private static void lateResultsAreDropped() {
        SagaRunner x = new SagaRunner(1, 16);
        x.defineStep(0, 3, 5, 0);
        x.start();
        reportIs(x, 0, 1, false, SagaRunner.ACTIVE);
        Checks.refused(x, "a result of the failed attempt", () -> x.report(0, 0, 1, true), SagaRunner.STALE);
        Checks.due("tick(5)", x.tick(5), 1);
        Checks.refused(x, "a result of the timed out one", () -> x.report(0, 0, 2, true), SagaRunner.STALE);
        reportIs(x, 0, 3, true, SagaRunner.DONE);
    }

    private static void timeoutIsAFailure() {
        SagaRunner failed = new SagaRunner(1, 64);
        SagaRunner timedOut = new SagaRunner(1, 64);
        for (SagaRunner x : new SagaRunner[] {failed, timedOut}) {
            x.defineStep(0, 3, 2, 0);
            x.start();
        }
        for (int attempt = 1; attempt <= 3; attempt++) {
            failed.tick(1);
            timedOut.tick(1);
            reportIs(failed, 0, attempt, false, attempt < 3 ? SagaRunner.ACTIVE : SagaRunner.FAILED);
            Checks.due("tick(1)", timedOut.tick(1), 1);
            for (int what : new int[] {SagaRunner.INFO_STATUS, SagaRunner.INFO_ATTEMPT}) {
                Checks.due("stepInfo(0, 0, " + what + ")", timedOut.stepInfo(0, 0, what), failed.stepInfo(0, 0, what));
            }
        }
        Checks.stateIs(failed, 0, SagaRunner.ROLLED_BACK);
        Checks.stateIs(timedOut, 0, SagaRunner.ROLLED_BACK);
    }

    private static void eachStepHasItsLimit() {
        for (int step = 0; step < 4; step++) {
            SagaRunner x = new SagaRunner(1, 64);
            for (int limit = 1; limit <= 4; limit++) {
                x.defineStep(0, limit, 15, 0);
            }
            x.start();
            for (int attempt = 1; attempt <= step; attempt++) {
                reportIs(x, step, attempt, false, SagaRunner.ACTIVE);
                Checks.stateIs(x, 0, SagaRunner.RUNNING);
            }
            reportIs(x, step, step + 1, false, SagaRunner.FAILED);
            Checks.stateIs(x, 0, SagaRunner.ABORTING);
        }
    }

    private static void abortingDoesNotRetry() {
        SagaRunner x = threeAndOne();
        reportIs(x, 0, 1, false, SagaRunner.FAILED);
        Checks.stateIs(x, 0, SagaRunner.ABORTING);
        reportIs(x, 1, 1, false, SagaRunner.FAILED);
    }

    private static void abortIssuesNothing() {
        SagaRunner x = threeAndOne();
        reportIs(x, 0, 1, false, SagaRunner.FAILED);
        reportIs(x, 2, 1, true, SagaRunner.DONE);
        reportIs(x, 1, 1, true, SagaRunner.UNDOING);
        statusIs(x, 3, SagaRunner.IDLE);
        reportIs(x, 1, 1, true, SagaRunner.UNDONE);
        reportIs(x, 2, 1, true, SagaRunner.UNDONE);
        Checks.slotIs(x, 0, SagaRunner.ROLLED_BACK, 0, 0);
        statusIs(x, 3, SagaRunner.IDLE);
    }

    private static void abortWaitsForTheOthers() {
        SagaRunner x = threeAndOne();
        reportIs(x, 2, 1, true, SagaRunner.DONE);
        reportIs(x, 0, 1, false, SagaRunner.FAILED);
        Checks.stateIs(x, 0, SagaRunner.ABORTING);
        x.tick(14);
        statusIs(x, 2, SagaRunner.DONE);
        statusIs(x, 1, SagaRunner.ACTIVE);
        x.tick(1);
        Checks.stateIs(x, 0, SagaRunner.COMPENSATING);
        statusIs(x, 2, SagaRunner.UNDOING);
    }

    private static void undoGoesBackwardsOneByOne() {
        SagaRunner x = threeAndOne();
        int[] order = {1, 2, 0};
        for (int step : order) {
            reportIs(x, step, 1, true, SagaRunner.DONE);
        }
        reportIs(x, 3, 1, false, SagaRunner.FAILED);
        for (int i = 2; i >= 0; i--) {
            for (int other = 0; other < i; other++) {
                statusIs(x, order[other], SagaRunner.DONE);
            }
            for (int attempt = 1; attempt <= 5; attempt++) {
                reportIs(x, order[i], attempt, false, SagaRunner.UNDOING);
            }
            reportIs(x, order[i], 6, true, SagaRunner.UNDONE);
        }
        Checks.stateIs(x, 0, SagaRunner.ROLLED_BACK);
    }

    private static void pastThePivotItCommits() {
        SagaRunner x = new SagaRunner(1, 128);
        x.defineStep(0, 1, 15, SagaRunner.COMPENSABLE);
        x.defineStep(1, 1, 15, SagaRunner.PIVOT);
        x.defineStep(2, 1, 15, SagaRunner.COMPENSABLE);
        x.start();
        reportIs(x, 0, 1, true, SagaRunner.DONE);
        reportIs(x, 1, 1, true, SagaRunner.DONE);
        for (int attempt = 1; attempt <= 100; attempt += 2) {
            reportIs(x, 2, attempt, false, SagaRunner.ACTIVE);
            Checks.due("tick(15)", x.tick(15), 1);
            Checks.slotIs(x, 0, SagaRunner.RUNNING, 2, 1);
        }
        reportIs(x, 2, 101, true, SagaRunner.DONE);
        Checks.slotIs(x, 0, SagaRunner.COMMITTED, 2, 1);
    }

    private static void acceptedCallsAreWritten() {
        SagaRunner x = new SagaRunner(1, 8);
        x.defineStep(0, 2, 15, 0);
        x.start();
        x.report(0, 0, 1, false);
        x.tick(3);
        x.report(0, 0, 2, true);
        x.release(0);
        Checks.recordIs(x, 0, SagaRunner.J_START, 0, 0, 0);
        Checks.recordIs(x, 1, SagaRunner.J_FAIL, 0, 0, 1);
        Checks.recordIs(x, 2, SagaRunner.J_TICK, 3, 0, 0);
        Checks.recordIs(x, 3, SagaRunner.J_OK, 0, 0, 2);
        Checks.recordIs(x, 4, SagaRunner.J_RELEASE, 0, 0, 0);
        Checks.lengthsAre(x, 5, 0);
        Checks.fillWithTicks(x, 8);
        Checks.refused(x, "a ninth record", x::start, SagaRunner.FULL);
    }

    private static void crashGoesBackToTheFlush() {
        for (int flushed = 0; flushed <= Scenario.CALLS; flushed++) {
            SagaRunner x = Scenario.afterCalls(flushed);
            x.flush();
            int[] atTheFlush = Checks.answers(x);
            for (int i = flushed; i < Scenario.CALLS; i++) {
                Scenario.call(x, i);
            }
            Checks.due("crash()", x.crash(), Scenario.CALLS - flushed);
            Checks.unchanged("all that came after the flush, once crashed,", atTheFlush, x);
        }
    }

    private static void numbersAre(int first, int step, int... constants) {
        for (int i = 0; i < constants.length; i++) {
            Checks.due("constant " + i + " of the row", constants[i], first + i * step);
        }
    }

    private static void answersAreNumbered() {
        numbersAre(0, -1, SagaRunner.ACCEPTED, SagaRunner.REFUSED, SagaRunner.STALE, SagaRunner.FULL);
    }

    private static void flagsAreNumbered() {
        numbersAre(1, 1, SagaRunner.COMPENSABLE, SagaRunner.PIVOT);
    }

    private static void statesAreNumbered() {
        numbersAre(0, 1, SagaRunner.FREE, SagaRunner.RUNNING, SagaRunner.ABORTING, SagaRunner.COMPENSATING,
                SagaRunner.COMMITTED, SagaRunner.ROLLED_BACK);
    }

    private static void statusesAreNumbered() {
        numbersAre(0, 1, SagaRunner.IDLE, SagaRunner.ACTIVE, SagaRunner.DONE, SagaRunner.FAILED, SagaRunner.UNDOING,
                SagaRunner.UNDONE);
    }

    private static void instanceSelectorsAreNumbered() {
        numbersAre(0, 1, SagaRunner.INST_STATE, SagaRunner.INST_STAGE, SagaRunner.INST_PAST_PIVOT);
    }

    private static void stepSelectorsAreNumbered() {
        numbersAre(0, 1, SagaRunner.INFO_STATUS, SagaRunner.INFO_ATTEMPT, SagaRunner.INFO_DEADLINE,
                SagaRunner.INFO_DONE_RANK, SagaRunner.INFO_UNDO_RANK);
    }

    private static void kindsAreNumbered() {
        numbersAre(1, 1, SagaRunner.J_START, SagaRunner.J_OK, SagaRunner.J_FAIL, SagaRunner.J_TICK,
                SagaRunner.J_RELEASE);
    }
}
