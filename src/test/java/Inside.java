import java.lang.reflect.Field;
import java.util.List;

/** Reaches what a ledger keeps, for states that no call brings about. */
final class Inside {
    private Inside() {
    }

    /** Sets a field of one of the ledger's doors, phones or audits. */
    static void spoil(Doorledger x, String list, int index, String name, Object value) {
        try {
            Field field = Doorledger.class.getDeclaredField(list);
            field.setAccessible(true);
            Object part = ((List<?>) field.get(x)).get(index);
            Field spoilt = part.getClass().getDeclaredField(name);
            spoilt.setAccessible(true);
            spoilt.set(part, value);
        } catch (ReflectiveOperationException e) {
            throw new IllegalStateException("no field " + list + ", " + name, e);
        }
    }
}
