import java.util.Objects;
import java.util.function.Function;
import java.util.function.Supplier;

/** Counts the calls whose answer is not the one that is due. */
final class Checks {
    private int wrong = 0;
    private int asked = 0;
    private String place = "";

    /** A call that may throw. */
    interface Call {
        Object make();
    }

    /** What is told ahead of each wrong answer from now on. */
    void place(String place) {
        this.place = place;
    }

    int asked() {
        return asked;
    }

    void due(String call, Object got, Object want) {
        asked++;
        if (!Objects.equals(got, want)) {
            wrong++;
            System.out.println(place + call + " answered " + got + ", due is " + want);
        }
    }

    /** The answer as a text: its bits where it is a float or double, throws.Name where the call throws. */
    static String answerOf(Call call) {
        try {
            Object answer = call.make();
            if (answer instanceof Float f) {
                return "float " + Integer.toHexString(Float.floatToIntBits(f));
            }
            if (answer instanceof Double d) {
                return "double " + Long.toHexString(Double.doubleToLongBits(d));
            }
            return String.valueOf(answer);
        } catch (RuntimeException e) {
            return (isThrownByHand(e) ? "throws." : "machine.throws.") + e.getClass().getSimpleName();
        }
    }

    /** False where the machine threw (it tells of an index or a divisor), or the library. */
    private static boolean isThrownByHand(RuntimeException e) {
        StackTraceElement[] frames = e.getStackTrace();
        String where = frames.length == 0 ? "" : frames[0].getClassName();
        String told = e.getMessage() == null ? "" : e.getMessage();
        boolean ours = where.startsWith("Doorledger") || where.startsWith("PlainModel");
        return ours && !told.startsWith("Index ") && !told.startsWith("/ by zero");
    }

    /** The call throws just this exception, and leaves an object as its untouched twin is, now and afterwards. */
    void refused(String call, Supplier<Doorledger> setup, Function<Doorledger, Object> bad,
            Class<? extends RuntimeException> due) {
        for (Function<Doorledger, String> part : Portrait.PARTS) {
            Doorledger touched = setup.get();
            due(call, answerOf(() -> bad.apply(touched)), "throws." + due.getSimpleName());
            due("the portrait after " + call, part.apply(touched), part.apply(setup.get()));
        }
    }

    void end() {
        System.out.println(wrong == 0 ? asked + " answers are as due" : wrong + " of " + asked + " answers are not as due");
        if (wrong != 0) {
            System.exit(1);
        }
    }
}
