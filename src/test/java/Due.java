import java.util.function.Supplier;
import java.util.function.ToLongFunction;

/** Compares answers with those that are due, and ends the test's run with exit code 1 if one was wrong. */
final class Due {
    private int asked = 0;
    private int wrong = 0;

    void is(String what, long got, long want) {
        asked++;
        if (got != want) {
            wrong++;
            System.out.println(what + ": answered " + got + ", due is " + want);
        }
    }

    void isTrue(String what, boolean got) {
        is(what, got ? 1 : 0, 1);
    }

    /** A refusal: its answer, and that the object is afterwards as one that was never asked. */
    void refused(String what, Supplier<ExamScales> maker, ToLongFunction<ExamScales> call, long want) {
        refused(what, maker, State.of(maker), call, want);
    }

    /** The same, for a maker whose objects' state was read already. */
    void refused(String what, Supplier<ExamScales> maker, String untouched, ToLongFunction<ExamScales> call, long want) {
        is(what, call.applyAsLong(maker.get()), want);
        String after = State.of(() -> {
            ExamScales x = maker.get();
            call.applyAsLong(x);
            return x;
        });
        asked++;
        if (!after.equals(untouched)) {
            wrong++;
            System.out.println(what + ": changed the state from\n" + untouched + "to\n" + after);
        }
    }

    void end() {
        System.out.println(asked - wrong + " answers as due, " + wrong + " not");
        if (wrong != 0) {
            System.exit(1);
        }
    }
}
