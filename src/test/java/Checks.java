import java.util.Arrays;
import java.util.function.IntBinaryOperator;

/** What every test shares: comparing answers, and ending with exit code 1 if one was wrong. */
final class Checks {
    private static int wrong = 0;
    private static int made = 0;

    private Checks() {
    }

    static void due(String call, int got, int want) {
        made++;
        if (got != want) {
            wrong++;
            System.out.println(call + " answered " + got + ", due is " + want);
        }
    }

    static void holds(String what, boolean held) {
        made++;
        if (!held) {
            wrong++;
            System.out.println(what + " does not hold");
        }
    }

    /** A getter of three numbers, as stepInfo is. */
    interface StepGetter {
        int of(int inst, int step, int what);
    }

    /** The answers of every getter, for every argument that is allowed and the ones just outside. */
    static int[] answers(SagaRunner x) {
        int[] numbers = {x.stepCount(), x.clock(), x.journalLength(), x.durableLength()};
        return answers(numbers, x::instanceInfo, x::stepInfo, x::journalField);
    }

    static int[] answers(int[] numbers, IntBinaryOperator instanceInfo, StepGetter stepInfo,
            IntBinaryOperator journalField) {
        int[] all = Arrays.copyOf(numbers, 2000);
        int n = numbers.length;
        for (int inst = -1; inst <= 8; inst++) {
            for (int what = -1; what <= 3; what++) {
                all[n++] = instanceInfo.applyAsInt(inst, what);
            }
            for (int step = -1; step <= 12; step++) {
                for (int what = -1; what <= 5; what++) {
                    all[n++] = stepInfo.of(inst, step, what);
                }
            }
        }
        for (int index = -1; index <= 128; index++) {
            for (int field = -1; field <= 4; field++) {
                all[n++] = journalField.applyAsInt(index, field);
            }
        }
        return all;
    }

    static void unchanged(String call, int[] before, SagaRunner x) {
        holds("that " + call + " changes no getter's answer", Arrays.equals(before, answers(x)));
    }

    /** State, stage and pastPivot of a slot. */
    static void slotIs(SagaRunner x, int inst, int state, int stage, int pastPivot) {
        due("state of slot " + inst, x.instanceInfo(inst, SagaRunner.INST_STATE), state);
        due("stage of slot " + inst, x.instanceInfo(inst, SagaRunner.INST_STAGE), stage);
        due("pastPivot of slot " + inst, x.instanceInfo(inst, SagaRunner.INST_PAST_PIVOT), pastPivot);
    }

    /** Status, attempt, deadline, doneRank and undoRank of a step, in that order in want. */
    static void stepIs(SagaRunner x, int inst, int step, int... want) {
        for (int what = 0; what < 5; what++) {
            due("stepInfo(" + inst + ", " + step + ", " + what + ")", x.stepInfo(inst, step, what), want[what]);
        }
    }

    /** Kind, a, b and c of a record, in that order in want. */
    static void recordIs(SagaRunner x, int index, int... want) {
        for (int field = 0; field < 4; field++) {
            due("journalField(" + index + ", " + field + ")", x.journalField(index, field), want[field]);
        }
    }

    /** Fills the journal with ticks of 1 up to its capacity. */
    static void fillWithTicks(SagaRunner x, int capacity) {
        for (int i = x.journalLength(); i < capacity; i++) {
            x.tick(1);
        }
        due("journalLength() once filled", x.journalLength(), capacity);
    }

    static void end() {
        System.out.println(made + " checks, " + wrong + " wrong");
        if (wrong != 0 || made == 0) {
            System.exit(1);
        }
    }
}
