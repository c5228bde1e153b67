/** Of the definitions: the rules. */
public final class DefinitionsRulesTest {
    public static void main(String[] args) {
        sentences().run();
    }

    static Sentences sentences() {
        Sentences all = new Sentences("Definitions");
        forward(all);
        failure(all);
        undo(all);
        return all;
    }

    private static void forward(Sentences all) {
        all.test("For step s of one instance, with t the timeout of s:", DefinitionsRulesTest::eachStepHasItsTimeout)
                .test("**ISSUE(s):** status becomes ACTIVE, attempt 1, deadline C+t.",
                        DefinitionsRulesTest::issueBeginsAtOne)
                .test("**OK on ACTIVE s:** status becomes DONE", DefinitionsRulesTest::okMakesDone)
                .test("doneRank = 1 + (number of steps of the instance whose doneRank is not 0, counted before this"
                        + " assignment)", "the first", DefinitionsRulesTest::firstDoneRankIsOne)
                .test("doneRank = 1 + (number of steps of the instance whose doneRank is not 0, counted before this"
                        + " assignment)", "the twelfth", DefinitionsRulesTest::doneRanksGoToTwelve)
                .test("if s has PIVOT, pastPivot becomes 1", DefinitionsRulesTest::onlyAPivotIsPassed)
                .test("if the state is RUNNING and every step of the current stage is DONE", "one is left",
                        DefinitionsRulesTest::oneStepLeftHoldsTheStage)
                .test("if the current stage is L, the state becomes COMMITTED", DefinitionsRulesTest::lastStageCommits)
                .test("otherwise the stage grows by 1 and ISSUE is applied to each step of the new stage in ascending"
                        + " index", DefinitionsRulesTest::nextStageIsIssued)
                .test("If instead the state is ABORTING: SETTLE.", DefinitionsRulesTest::okWhileAbortingSettles);
    }

    private static void failure(Sentences all) {
        all.test("or attempt < maxAttempts of s)", DefinitionsRulesTest::attemptsBelowTheLimitAreRetried)
                .test("(pastPivot is 1", DefinitionsRulesTest::pastThePivotThereIsNoLimit)
                .test("attempt grows by 1 and deadline = C+t; this is a retry and the status stays ACTIVE.",
                        DefinitionsRulesTest::retryHasANewDeadline)
                .test("if the state is RUNNING and (pastPivot", "a state that is not RUNNING",
                        DefinitionsRulesTest::abortingRetriesNothing)
                .test("Otherwise status becomes FAILED", DefinitionsRulesTest::failedKeepsItsAttempt)
                .test("if the state is RUNNING it becomes ABORTING; then SETTLE.",
                        DefinitionsRulesTest::lastFailureAborts)
                .test("**SETTLE:** if no step of the instance is ACTIVE", "one is left",
                        DefinitionsRulesTest::oneActiveStepHoldsTheAbort)
                .test("the state becomes COMPENSATING, then NEXT_UNDO.", DefinitionsRulesTest::settledAbortCompensates);
    }

    private static void undo(Sentences all) {
        all.test("among the steps with status DONE and flag COMPENSABLE", DefinitionsRulesTest::onlyCompensableIsUndone)
                .test("the one with the greatest doneRank", DefinitionsRulesTest::newestIsUndoneFirst)
                .test("gets status UNDOING, attempt 1, deadline C+t (t of that step)",
                        DefinitionsRulesTest::undoBeginsAtOne)
                .test("If there is none, the state becomes ROLLED_BACK.", "none at all",
                        DefinitionsRulesTest::nothingToUndoRollsBack)
                .test("If there is none, the state becomes ROLLED_BACK.", "none any more",
                        DefinitionsRulesTest::lastUndoRollsBack)
                .test("**OK on UNDOING s:** status becomes UNDONE", DefinitionsRulesTest::okMakesUndone)
                .test("undoRank = 1 + (number of steps of the instance whose undoRank is not 0, counted before this"
                        + " assignment)", "one alone", DefinitionsRulesTest::firstUndoRankIsOne)
                .test("undoRank = 1 + (number of steps of the instance whose undoRank is not 0, counted before this"
                        + " assignment)", "eleven", DefinitionsRulesTest::undoRanksGoToEleven)
                .test("counted before this assignment); then NEXT_UNDO.", DefinitionsRulesTest::undoGoesOn)
                .test("**FAIL on UNDOING s:** attempt grows by 1, deadline = C+t.",
                        DefinitionsRulesTest::failedUndoHasANewDeadline)
                .test("Compensations retry without limit.", DefinitionsRulesTest::undoHasNoLimit);
    }

    private static void ok(SagaRunner x, int step, int attempt, int want) {
        Checks.due("report(0, " + step + ", " + attempt + ", true)", x.report(0, step, attempt, true), want);
    }

    private static void fail(SagaRunner x, int step, int attempt, int want) {
        Checks.due("report(0, " + step + ", " + attempt + ", false)", x.report(0, step, attempt, false), want);
    }

    private static void eachStepHasItsTimeout() {
        SagaRunner x = new SagaRunner(2, 16);
        for (int step = 0; step < 12; step++) {
            x.defineStep(0, 2, 15 - step, 0);
        }
        x.tick(3);
        x.start();
        x.start();
        for (int step = 0; step < 12; step++) {
            Checks.stepIs(x, 0, step, SagaRunner.ACTIVE, 1, 18 - step, 0, 0);
            Checks.stepIs(x, 1, step, SagaRunner.ACTIVE, 1, 18 - step, 0, 0);
        }
    }

    private static void issueBeginsAtOne() {
        SagaRunner x = new SagaRunner(1, 32);
        x.defineStep(0, 4, 1, 0);
        x.defineStep(1, 4, 15, 0);
        x.start();
        Checks.stepIs(x, 0, 0, SagaRunner.ACTIVE, 1, 1, 0, 0);
        x.tick(16);
        x.tick(16);
        Checks.stepIs(x, 0, 1, SagaRunner.IDLE, 0, 0, 0, 0);
        ok(x, 0, 3, SagaRunner.DONE);
        Checks.stepIs(x, 0, 1, SagaRunner.ACTIVE, 1, 47, 0, 0);
    }

    private static void okMakesDone() {
        SagaRunner x = new SagaRunner(1, 16);
        x.defineStep(0, 2, 5, 1);
        x.defineStep(0, 2, 5, 1);
        x.start();
        fail(x, 0, 1, SagaRunner.ACTIVE);
        ok(x, 0, 2, SagaRunner.DONE);
        Checks.stepIs(x, 0, 0, SagaRunner.DONE, 2, 0, 1, 0);
        Checks.stepIs(x, 0, 1, SagaRunner.ACTIVE, 1, 5, 0, 0);
    }

    private static void firstDoneRankIsOne() {
        SagaRunner x = new SagaRunner(2, 16);
        x.defineStep(0, 1, 5, 0);
        x.defineStep(0, 1, 5, 0);
        x.start();
        x.start();
        ok(x, 1, 1, SagaRunner.DONE);
        Checks.stepIs(x, 0, 1, SagaRunner.DONE, 1, 0, 1, 0);
        x.report(1, 0, 1, true);
        Checks.stepIs(x, 1, 0, SagaRunner.DONE, 1, 0, 1, 0);
        ok(x, 0, 1, SagaRunner.DONE);
        Checks.stepIs(x, 0, 0, SagaRunner.DONE, 1, 0, 2, 0);
    }

    private static void doneRanksGoToTwelve() {
        SagaRunner x = new SagaRunner(1, 16);
        for (int step = 0; step < 12; step++) {
            x.defineStep(step / 6, 1, 15, 1);
        }
        x.start();
        int[] order = {5, 0, 4, 1, 3, 2, 6, 11, 7, 10, 8, 9};
        for (int rank = 1; rank <= 12; rank++) {
            ok(x, order[rank - 1], 1, SagaRunner.DONE);
            Checks.stepIs(x, 0, order[rank - 1], SagaRunner.DONE, 1, 0, rank, 0);
        }
        Checks.stateIs(x, 0, SagaRunner.COMMITTED);
        Checks.stepIs(x, 0, 5, SagaRunner.DONE, 1, 0, 1, 0);
    }

    private static void onlyAPivotIsPassed() {
        SagaRunner x = new SagaRunner(1, 16);
        for (int flags = 0; flags < 4; flags++) {
            x.defineStep(flags, 1, 15, flags);
        }
        x.start();
        int[] pastPivotAfter = {0, 0, 1, 1};
        for (int step = 0; step < 4; step++) {
            ok(x, step, 1, SagaRunner.DONE);
            Checks.due("pastPivot", x.instanceInfo(0, SagaRunner.INST_PAST_PIVOT), pastPivotAfter[step]);
        }

        SagaRunner both = new SagaRunner(1, 16);
        both.defineStep(0, 1, 15, SagaRunner.PIVOT | SagaRunner.COMPENSABLE);
        both.start();
        ok(both, 0, 1, SagaRunner.DONE);
        Checks.slotIs(both, 0, SagaRunner.COMMITTED, 0, 1);
    }

    private static void oneStepLeftHoldsTheStage() {
        for (int left = 0; left < 3; left++) {
            SagaRunner x = new SagaRunner(1, 16);
            for (int step = 0; step < 4; step++) {
                x.defineStep(step / 3, 1, 15, 0);
            }
            x.start();
            for (int step = 0; step < 3; step++) {
                if (step != left) {
                    ok(x, step, 1, SagaRunner.DONE);
                }
            }
            Checks.slotIs(x, 0, SagaRunner.RUNNING, 0, 0);
            Checks.stepIs(x, 0, 3, SagaRunner.IDLE, 0, 0, 0, 0);
            ok(x, left, 1, SagaRunner.DONE);
            Checks.slotIs(x, 0, SagaRunner.RUNNING, 1, 0);
        }
    }

    private static void lastStageCommits() {
        for (int stages = 1; stages <= 12; stages++) {
            SagaRunner x = new SagaRunner(1, 16);
            for (int stage = 0; stage < stages; stage++) {
                x.defineStep(stage, 1, 15, 0);
            }
            x.start();
            for (int stage = 0; stage < stages; stage++) {
                Checks.stateIs(x, 0, SagaRunner.RUNNING);
                ok(x, stage, 1, SagaRunner.DONE);
            }
            Checks.slotIs(x, 0, SagaRunner.COMMITTED, stages - 1, 0);
        }
    }

    private static void nextStageIsIssued() {
        SagaRunner x = new SagaRunner(1, 16);
        x.defineStep(0, 1, 15, 0);
        for (int step = 1; step < 11; step++) {
            x.defineStep(1, 1, step, 0);
        }
        x.defineStep(2, 1, 15, 0);
        x.start();
        x.tick(4);
        ok(x, 0, 1, SagaRunner.DONE);
        Checks.slotIs(x, 0, SagaRunner.RUNNING, 1, 0);
        Checks.stepIs(x, 0, 0, SagaRunner.DONE, 1, 0, 1, 0);
        for (int step = 1; step < 11; step++) {
            Checks.stepIs(x, 0, step, SagaRunner.ACTIVE, 1, 4 + step, 0, 0);
        }
        Checks.stepIs(x, 0, 11, SagaRunner.IDLE, 0, 0, 0, 0);
    }

    private static SagaRunner threeOfOneStage() {
        SagaRunner x = new SagaRunner(1, 32);
        x.defineStep(0, 1, 9, 1);
        x.defineStep(0, 4, 9, 1);
        x.defineStep(0, 4, 9, 1);
        x.defineStep(1, 1, 9, 1);
        x.start();
        return x;
    }

    private static void okWhileAbortingSettles() {
        SagaRunner x = threeOfOneStage();
        fail(x, 0, 1, SagaRunner.FAILED);
        ok(x, 1, 1, SagaRunner.DONE);
        Checks.slotIs(x, 0, SagaRunner.ABORTING, 0, 0);
        ok(x, 2, 1, SagaRunner.UNDOING);
        Checks.slotIs(x, 0, SagaRunner.COMPENSATING, 0, 0);
        Checks.stepIs(x, 0, 3, SagaRunner.IDLE, 0, 0, 0, 0);
    }

    private static void attemptsBelowTheLimitAreRetried() {
        for (int most = 1; most <= 4; most++) {
            SagaRunner x = new SagaRunner(1, 16);
            x.defineStep(0, most, 7, 0);
            x.start();
            for (int attempt = 1; attempt < most; attempt++) {
                fail(x, 0, attempt, SagaRunner.ACTIVE);
                Checks.slotIs(x, 0, SagaRunner.RUNNING, 0, 0);
            }
            fail(x, 0, most, SagaRunner.FAILED);
            Checks.slotIs(x, 0, SagaRunner.ROLLED_BACK, 0, 0);
        }
    }

    private static void pastThePivotThereIsNoLimit() {
        SagaRunner x = new SagaRunner(1, 128);
        x.defineStep(0, 1, 3, SagaRunner.PIVOT);
        x.defineStep(1, 1, 3, 0);
        x.start();
        ok(x, 0, 1, SagaRunner.DONE);
        for (int attempt = 1; attempt <= 125; attempt++) {
            fail(x, 1, attempt, SagaRunner.ACTIVE);
        }
        Checks.stepIs(x, 0, 1, SagaRunner.ACTIVE, 126, 3, 0, 0);
        Checks.slotIs(x, 0, SagaRunner.RUNNING, 1, 1);
        ok(x, 1, 126, SagaRunner.DONE);
        Checks.slotIs(x, 0, SagaRunner.COMMITTED, 1, 1);
    }

    private static void retryHasANewDeadline() {
        SagaRunner x = new SagaRunner(1, 16);
        x.defineStep(0, 4, 7, 0);
        x.start();
        for (int attempt = 1; attempt < 4; attempt++) {
            x.tick(2);
            fail(x, 0, attempt, SagaRunner.ACTIVE);
            Checks.stepIs(x, 0, 0, SagaRunner.ACTIVE, attempt + 1, 2 * attempt + 7, 0, 0);
        }
    }

    private static void abortingRetriesNothing() {
        SagaRunner x = threeOfOneStage();
        fail(x, 1, 1, SagaRunner.ACTIVE);
        fail(x, 0, 1, SagaRunner.FAILED);
        fail(x, 1, 2, SagaRunner.FAILED);
        Checks.stepIs(x, 0, 1, SagaRunner.FAILED, 2, 0, 0, 0);
        Checks.slotIs(x, 0, SagaRunner.ABORTING, 0, 0);
        fail(x, 2, 1, SagaRunner.FAILED);
        Checks.slotIs(x, 0, SagaRunner.ROLLED_BACK, 0, 0);
    }

    private static void failedKeepsItsAttempt() {
        SagaRunner x = new SagaRunner(1, 16);
        x.defineStep(0, 4, 7, 1);
        x.start();
        for (int attempt = 1; attempt < 4; attempt++) {
            fail(x, 0, attempt, SagaRunner.ACTIVE);
        }
        fail(x, 0, 4, SagaRunner.FAILED);
        Checks.stepIs(x, 0, 0, SagaRunner.FAILED, 4, 0, 0, 0);
    }

    private static void lastFailureAborts() {
        SagaRunner x = threeOfOneStage();
        fail(x, 0, 1, SagaRunner.FAILED);
        Checks.slotIs(x, 0, SagaRunner.ABORTING, 0, 0);
        Checks.stepIs(x, 0, 1, SagaRunner.ACTIVE, 1, 9, 0, 0);

        SagaRunner pivot = new SagaRunner(1, 16);
        pivot.defineStep(0, 1, 3, 1);
        pivot.defineStep(1, 2, 3, SagaRunner.PIVOT);
        pivot.start();
        ok(pivot, 0, 1, SagaRunner.DONE);
        fail(pivot, 1, 1, SagaRunner.ACTIVE);
        fail(pivot, 1, 2, SagaRunner.FAILED);
        Checks.slotIs(pivot, 0, SagaRunner.COMPENSATING, 1, 0);
    }

    private static void oneActiveStepHoldsTheAbort() {
        for (int left = 0; left < 12; left++) {
            int failing = (left + 1) % 12;
            SagaRunner x = new SagaRunner(1, 16);
            for (int step = 0; step < 12; step++) {
                x.defineStep(0, 1, 15, 1);
            }
            x.start();
            for (int step = 0; step < 12; step++) {
                if (step != left) {
                    x.report(0, step, 1, step != failing);
                }
            }
            Checks.slotIs(x, 0, SagaRunner.ABORTING, 0, 0);
            Checks.stepIs(x, 0, left, SagaRunner.ACTIVE, 1, 15, 0, 0);
            fail(x, left, 1, SagaRunner.FAILED);
            Checks.slotIs(x, 0, SagaRunner.COMPENSATING, 0, 0);
        }
    }

    private static void settledAbortCompensates() {
        SagaRunner x = threeOfOneStage();
        ok(x, 1, 1, SagaRunner.DONE);
        ok(x, 2, 1, SagaRunner.DONE);
        fail(x, 0, 1, SagaRunner.FAILED);
        Checks.slotIs(x, 0, SagaRunner.COMPENSATING, 0, 0);
        Checks.stepIs(x, 0, 1, SagaRunner.DONE, 1, 0, 1, 0);
        Checks.stepIs(x, 0, 2, SagaRunner.UNDOING, 1, 9, 2, 0);
    }

    private static void onlyCompensableIsUndone() {
        SagaRunner x = new SagaRunner(1, 16);
        x.defineStep(0, 1, 9, 0);
        x.defineStep(0, 1, 9, 1);
        x.defineStep(0, 1, 9, 0);
        x.defineStep(1, 1, 9, 1);
        x.defineStep(1, 1, 9, 1);
        x.defineStep(2, 1, 9, 1);
        x.start();
        ok(x, 1, 1, SagaRunner.DONE);
        ok(x, 0, 1, SagaRunner.DONE);
        ok(x, 2, 1, SagaRunner.DONE);
        fail(x, 3, 1, SagaRunner.FAILED);
        fail(x, 4, 1, SagaRunner.FAILED);
        Checks.stepIs(x, 0, 1, SagaRunner.UNDOING, 1, 9, 1, 0);
        ok(x, 1, 1, SagaRunner.UNDONE);
        Checks.slotIs(x, 0, SagaRunner.ROLLED_BACK, 1, 0);
        Checks.stepIs(x, 0, 0, SagaRunner.DONE, 1, 0, 2, 0);
        Checks.stepIs(x, 0, 2, SagaRunner.DONE, 1, 0, 3, 0);
        Checks.stepIs(x, 0, 3, SagaRunner.FAILED, 1, 0, 0, 0);
        Checks.stepIs(x, 0, 5, SagaRunner.IDLE, 0, 0, 0, 0);
    }

    private static void newestIsUndoneFirst() {
        SagaRunner x = new SagaRunner(1, 32);
        for (int step = 0; step < 6; step++) {
            x.defineStep(step / 5, 1, 15, 1);
        }
        x.start();
        int[] order = {3, 0, 4, 1, 2};
        for (int step : order) {
            ok(x, step, 1, SagaRunner.DONE);
        }
        fail(x, 5, 1, SagaRunner.FAILED);
        for (int i = 4; i >= 0; i--) {
            Checks.due("status of " + order[i], x.stepInfo(0, order[i], SagaRunner.INFO_STATUS), SagaRunner.UNDOING);
            ok(x, order[i], 1, SagaRunner.UNDONE);
        }
        Checks.slotIs(x, 0, SagaRunner.ROLLED_BACK, 1, 0);
    }

    private static void undoBeginsAtOne() {
        SagaRunner x = new SagaRunner(1, 32);
        x.defineStep(0, 3, 5, 1);
        x.defineStep(1, 1, 11, 0);
        x.start();
        fail(x, 0, 1, SagaRunner.ACTIVE);
        fail(x, 0, 2, SagaRunner.ACTIVE);
        ok(x, 0, 3, SagaRunner.DONE);
        x.tick(7);
        fail(x, 1, 1, SagaRunner.FAILED);
        Checks.stepIs(x, 0, 0, SagaRunner.UNDOING, 1, 12, 1, 0);
    }

    private static void nothingToUndoRollsBack() {
        SagaRunner nothingDone = new SagaRunner(1, 16);
        nothingDone.defineStep(0, 1, 3, 1);
        nothingDone.start();
        fail(nothingDone, 0, 1, SagaRunner.FAILED);
        Checks.slotIs(nothingDone, 0, SagaRunner.ROLLED_BACK, 0, 0);

        SagaRunner nothingCompensable = new SagaRunner(1, 16);
        nothingCompensable.defineStep(0, 1, 3, 0);
        nothingCompensable.defineStep(1, 1, 3, 1);
        nothingCompensable.start();
        ok(nothingCompensable, 0, 1, SagaRunner.DONE);
        fail(nothingCompensable, 1, 1, SagaRunner.FAILED);
        Checks.slotIs(nothingCompensable, 0, SagaRunner.ROLLED_BACK, 1, 0);
        Checks.stepIs(nothingCompensable, 0, 0, SagaRunner.DONE, 1, 0, 1, 0);
    }

    private static SagaRunner twoToUndo() {
        SagaRunner x = new SagaRunner(1, 128);
        x.defineStep(0, 1, 3, 1);
        x.defineStep(1, 1, 4, 1);
        x.defineStep(2, 1, 5, 0);
        x.start();
        ok(x, 0, 1, SagaRunner.DONE);
        ok(x, 1, 1, SagaRunner.DONE);
        fail(x, 2, 1, SagaRunner.FAILED);
        return x;
    }

    private static void lastUndoRollsBack() {
        SagaRunner x = twoToUndo();
        ok(x, 1, 1, SagaRunner.UNDONE);
        Checks.slotIs(x, 0, SagaRunner.COMPENSATING, 2, 0);
        ok(x, 0, 1, SagaRunner.UNDONE);
        Checks.slotIs(x, 0, SagaRunner.ROLLED_BACK, 2, 0);
    }

    private static void okMakesUndone() {
        SagaRunner x = twoToUndo();
        fail(x, 1, 1, SagaRunner.UNDOING);
        ok(x, 1, 2, SagaRunner.UNDONE);
        Checks.stepIs(x, 0, 1, SagaRunner.UNDONE, 2, 0, 2, 1);
    }

    private static void firstUndoRankIsOne() {
        SagaRunner x = new SagaRunner(2, 16);
        x.defineStep(0, 1, 5, 1);
        x.defineStep(1, 1, 5, 1);
        for (int inst = 0; inst < 2; inst++) {
            x.start();
            x.report(inst, 0, 1, true);
            x.report(inst, 1, 1, false);
            Checks.due("undo", x.report(inst, 0, 1, true), SagaRunner.UNDONE);
            Checks.stepIs(x, inst, 0, SagaRunner.UNDONE, 1, 0, 1, 1);
        }
    }

    private static void undoRanksGoToEleven() {
        SagaRunner x = new SagaRunner(1, 32);
        for (int step = 0; step < 12; step++) {
            x.defineStep(step / 11, 1, 15, 1);
        }
        x.start();
        for (int step = 10; step >= 0; step--) {
            ok(x, step, 1, SagaRunner.DONE);
        }
        fail(x, 11, 1, SagaRunner.FAILED);
        for (int step = 0; step <= 10; step++) {
            ok(x, step, 1, SagaRunner.UNDONE);
            Checks.stepIs(x, 0, step, SagaRunner.UNDONE, 1, 0, 11 - step, step + 1);
        }
        Checks.slotIs(x, 0, SagaRunner.ROLLED_BACK, 1, 0);
    }

    private static void undoGoesOn() {
        SagaRunner x = twoToUndo();
        Checks.stepIs(x, 0, 0, SagaRunner.DONE, 1, 0, 1, 0);
        x.tick(2);
        ok(x, 1, 1, SagaRunner.UNDONE);
        Checks.stepIs(x, 0, 0, SagaRunner.UNDOING, 1, 5, 1, 0);
    }

    private static void failedUndoHasANewDeadline() {
        SagaRunner x = twoToUndo();
        x.tick(3);
        fail(x, 1, 1, SagaRunner.UNDOING);
        Checks.stepIs(x, 0, 1, SagaRunner.UNDOING, 2, 7, 2, 0);
        Checks.stepIs(x, 0, 0, SagaRunner.DONE, 1, 0, 1, 0);
        Checks.slotIs(x, 0, SagaRunner.COMPENSATING, 2, 0);
    }

    private static void undoHasNoLimit() {
        SagaRunner x = twoToUndo();
        for (int attempt = 1; attempt <= 120; attempt++) {
            fail(x, 1, attempt, SagaRunner.UNDOING);
        }
        Checks.stepIs(x, 0, 1, SagaRunner.UNDOING, 121, 4, 2, 0);
        ok(x, 1, 121, SagaRunner.UNDONE);
        Checks.stepIs(x, 0, 1, SagaRunner.UNDONE, 121, 0, 2, 1);
        Checks.slotIs(x, 0, SagaRunner.COMPENSATING, 2, 0);
    }
}
