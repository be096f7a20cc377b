import java.util.NoSuchElementException;
import java.util.function.BiFunction;
import java.util.function.Function;
import java.util.function.IntFunction;
import java.util.function.Supplier;

/** What the tests of the sentences have in common. */
abstract class Boundaries {
    static final Class<IllegalArgumentException> ARGUMENT = IllegalArgumentException.class;
    static final Class<IllegalStateException> STATE = IllegalStateException.class;
    static final Class<IndexOutOfBoundsException> INDEX = IndexOutOfBoundsException.class;
    static final Class<NoSuchElementException> ELEMENT = NoSuchElementException.class;
    static final Class<ArithmeticException> ARITHMETIC = ArithmeticException.class;

    final Checks checks;

    Boundaries(Checks checks) {
        this.checks = checks;
    }

    abstract void all(Sentences s);

    /** A call with the number of a key, door, phone or audit. */
    interface Numbered extends BiFunction<Doorledger, Integer, Object> { }

    final void due(String call, Object got, Object want) {
        checks.due(call, got, want);
    }

    final void dueThrow(String call, Checks.Call got, Class<? extends RuntimeException> want) {
        due(call, Checks.answerOf(got), "throws." + want.getSimpleName());
    }

    final void refused(String call, Supplier<Doorledger> setup, Function<Doorledger, Object> bad,
            Class<? extends RuntimeException> due) {
        checks.refused(call, setup, bad, due);
    }

    final void noSuchKey(String call, Numbered made) {
        noSuch(call, Ledgers::withKeys, new int[] {0, 1, 7, 8}, made, ELEMENT);
    }

    final void noSuchDoor(String call, Numbered made) {
        noSuch(call, Ledgers::withDoors, new int[] {0, 1, 4, 5}, made, INDEX);
    }

    final void noSuchPhone(String call, Numbered made) {
        noSuch(call, Ledgers::withPhones, new int[] {0, 1, 2, 3}, made, INDEX);
    }

    final void noSuchAudit(String call, Numbered made) {
        noSuch(call, Ledgers::withAudits, new int[] {0, 1, 59, 60}, made, ELEMENT);
    }

    /** Of so many, the first and the last number are taken; the one ahead, those behind and the farthest are refused. */
    private void noSuch(String call, IntFunction<Doorledger> setup, int[] counts, Numbered made,
            Class<? extends RuntimeException> due) {
        for (int count : counts) {
            for (int number : new int[] {Integer.MIN_VALUE, -1, count, count + 1, Integer.MAX_VALUE}) {
                refused(call + " of " + number + " where there are " + count, () -> setup.apply(count),
                    x -> made.apply(x, number), due);
            }
            for (int number = 0; number < count; number += Math.max(1, count - 1)) {
                Doorledger x = setup.apply(count);
                int taken = number;
                String answer = Checks.answerOf(() -> made.apply(x, taken));
                due(call + " of " + number + " where there are " + count + " is taken", answer.contains("throws"), false);
            }
        }
    }

    /** The letters of a key around the first minute of its times and around their end, by a clock of rate 1.0f. */
    final void timesKept(Doorledger x, int door, int key, int from, int to) {
        if (from > x.time()) {
            Ledgers.passTo(x, from - 1);
            due("the letter a minute ahead of " + from, x.answer(door, key), 'e');
        }
        Ledgers.passTo(x, from);
        due("the letter at the first minute, " + from, x.answer(door, key), 'o');
        Ledgers.passTo(x, to - 1);
        due("the letter at the last minute, " + (to - 1), x.answer(door, key), 'o');
        Ledgers.passTo(x, to);
        due("the letter at the end, " + to, x.answer(door, key), 'l');
    }
}
