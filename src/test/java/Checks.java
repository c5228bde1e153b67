import java.util.Arrays;
import java.util.function.IntBinaryOperator;
import java.util.function.IntSupplier;
import java.util.stream.IntStream;

/** What every test shares: comparing answers, and ending with exit code 1 if one was wrong. */
final class Checks {
    private static int wrong = 0;
    private static int made = 0;
    private static String about = "";

    private Checks() {
    }

    /** Tells what the next checks are about; a wrong answer is printed with it. */
    static void begin(String what) {
        about = what + ": ";
    }

    static int made() {
        return made;
    }

    static void due(String call, int got, int want) {
        made++;
        if (got != want) {
            wrong++;
            System.out.println(about + call + " answered " + got + ", due is " + want);
        }
    }

    static void holds(String what, boolean held) {
        made++;
        if (!held) {
            wrong++;
            System.out.println(about + what + " does not hold");
        }
    }

    /** A call that must answer want, one of REFUSED, STALE and FULL, and change no getter's answer. */
    static void refused(SagaRunner x, String call, IntSupplier made, int want) {
        int[] before = answers(x);
        due(call, made.getAsInt(), want);
        unchanged(call, before, x);
    }

    /**
     * Numbers outside least..greatest: the nearest ones, the farthest ones, and some that a narrower number, a lost
     * sign or a multiplication with wrap-around would take for one inside.
     */
    static int[] outside(int least, int greatest) {
        int[] tried = {least - 1, least - 2, -1, -greatest, greatest + 1, greatest + 2,
            Integer.MIN_VALUE, Integer.MIN_VALUE + greatest, Integer.MAX_VALUE, Integer.MAX_VALUE - 1,
            least + 256, greatest + 256, greatest - 256, least + 65536, greatest - 65536, 1 << 30, 3 << 30};
        return IntStream.of(tried)
                .filter(number -> number < least || number > greatest)
                .distinct()
                .toArray();
    }

    /** A getter of three numbers, as stepInfo is. */
    interface StepGetter {
        int of(int inst, int step, int what);
    }

    /** The answers of every getter, for every argument that is allowed and the ones just outside. */
    static int[] answers(SagaRunner x) {
        int[] numbers = {x.stepCount(), x.clock(), x.journalLength(), x.durableLength()};
        return answers(numbers, x::instanceInfo, x::stepInfo, x::journalField);
    }

    static int[] answers(int[] numbers, IntBinaryOperator instanceInfo, StepGetter stepInfo,
            IntBinaryOperator journalField) {
        int[] all = Arrays.copyOf(numbers, 2000);
        int n = numbers.length;
        for (int inst = -1; inst <= 8; inst++) {
            for (int what = -1; what <= 3; what++) {
                all[n++] = instanceInfo.applyAsInt(inst, what);
            }
            for (int step = -1; step <= 12; step++) {
                for (int what = -1; what <= 5; what++) {
                    all[n++] = stepInfo.of(inst, step, what);
                }
            }
        }
        for (int index = -1; index <= 128; index++) {
            for (int field = -1; field <= 4; field++) {
                all[n++] = journalField.applyAsInt(index, field);
            }
        }
        return all;
    }

    static void unchanged(String call, int[] before, SagaRunner x) {
        holds("that " + call + " changes no getter's answer", Arrays.equals(before, answers(x)));
    }

    /** State, stage and pastPivot of a slot. */
    static void slotIs(SagaRunner x, int inst, int state, int stage, int pastPivot) {
        due("state of slot " + inst, x.instanceInfo(inst, SagaRunner.INST_STATE), state);
        due("stage of slot " + inst, x.instanceInfo(inst, SagaRunner.INST_STAGE), stage);
        due("pastPivot of slot " + inst, x.instanceInfo(inst, SagaRunner.INST_PAST_PIVOT), pastPivot);
    }

    static void stateIs(SagaRunner x, int inst, int state) {
        due("state of slot " + inst, x.instanceInfo(inst, SagaRunner.INST_STATE), state);
    }

    /** A FREE slot as the document defines it, whatever it was used for before. */
    static void slotIsFree(SagaRunner x, int inst) {
        slotIs(x, inst, SagaRunner.FREE, 0, 0);
        for (int step = 0; step < x.stepCount(); step++) {
            stepIs(x, inst, step, SagaRunner.IDLE, 0, 0, 0, 0);
        }
    }

    /** Status, attempt, deadline, doneRank and undoRank of a step, in that order in want. */
    static void stepIs(SagaRunner x, int inst, int step, int... want) {
        for (int what = 0; what < 5; what++) {
            due("stepInfo(" + inst + ", " + step + ", " + what + ")", x.stepInfo(inst, step, what), want[what]);
        }
    }

    /** Kind, a, b and c of a record, in that order in want. */
    static void recordIs(SagaRunner x, int index, int... want) {
        for (int field = 0; field < 4; field++) {
            due("journalField(" + index + ", " + field + ")", x.journalField(index, field), want[field]);
        }
    }

    static void lengthsAre(SagaRunner x, int journal, int durable) {
        due("journalLength()", x.journalLength(), journal);
        due("durableLength()", x.durableLength(), durable);
    }

    /** Fills the journal with ticks of 1 up to its capacity. */
    static void fillWithTicks(SagaRunner x, int capacity) {
        for (int i = x.journalLength(); i < capacity; i++) {
            x.tick(1);
        }
        due("journalLength() once filled", x.journalLength(), capacity);
    }

    static void end() {
        System.out.println(made + " checks, " + wrong + " wrong");
        if (wrong != 0 || made == 0) {
            System.exit(1);
        }
    }
}
