import java.util.List;
import java.util.function.Function;

/** What a ledger answers, as texts. There are parts, as one object is used for at most 512 calls. */
final class Portrait {
    static final List<Function<Doorledger, String>> PARTS = List.of(Portrait::now, Portrait::audits, Portrait::afterwards);

    private static final int DOORS = 5;
    private static final int PHONES = 3;
    /** One more than there can be. */
    private static final int KEYS = 9;

    private Portrait() {
    }

    private static String now(Doorledger x) {
        StringBuilder all = new StringBuilder();
        say(all, "version", x::version);
        say(all, "time", x::time);
        say(all, "audits", x::audits);
        say(all, "breaches", x::breaches);
        say(all, "delays", x::delays);
        say(all, "meanDelay", x::meanDelay);
        say(all, "meanBits", x::meanBits);
        say(all, "arrivedShare", x::arrivedShare);
        say(all, "isSound", x::isSound);
        for (int door = 0; door < DOORS; door++) {
            door(all, x, door);
        }
        for (int number = 0; number < PHONES; number++) {
            int phone = number;
            say(all, "\nversionOn " + phone, () -> x.versionOn(phone));
            say(all, "carried", () -> x.carried(phone));
        }
        return all.toString();
    }

    private static void door(StringBuilder all, Doorledger x, int door) {
        say(all, "\ndoor " + door + " clock", () -> x.clock(door));
        say(all, "drifted", () -> x.drifted(door));
        say(all, "driftedBits", () -> x.driftedBits(door));
        say(all, "versionOf", () -> x.versionOf(door));
        say(all, "versionByReplay", () -> x.versionByReplay(door));
        say(all, "waiting", () -> x.waiting(door));
        say(all, "breachesAt", () -> x.breachesAt(door));
        for (int number = 0; number < KEYS; number++) {
            int key = number;
            say(all, "key " + key, () -> x.answer(door, key));
            say(all, "from", () -> x.fromIn(door, key));
        }
    }

    private static String audits(Doorledger x) {
        StringBuilder all = new StringBuilder();
        int audits = x.audits();
        for (int number = 0; number < audits; number++) {
            int audit = number;
            say(all, "\naudit " + audit, () -> x.letterOf(audit));
            say(all, "letterByList", () -> x.letterByList(audit));
            say(all, "minute", () -> x.minuteOf(audit));
            say(all, "version", () -> x.versionAt(audit));
            say(all, "arrived", () -> x.hasArrived(audit));
            say(all, "breach", () -> x.isBreach(audit));
        }
        return all.toString();
    }

    /** A change may show only in what follows: the numbers that are given next, what phones bring, and the rates. */
    private static String afterwards(Doorledger x) {
        StringBuilder all = new StringBuilder();
        say(all, "addKey", () -> x.addKey(21, 7, 70000));
        say(all, "addDoor", x::addDoor);
        say(all, "addPhone", x::addPhone);
        say(all, "pass", () -> x.pass(33));
        for (int number = 0; number < DOORS; number++) {
            int door = number;
            int phone = door % PHONES;
            say(all, "open", () -> x.open(door, 0));
            say(all, "setRate", () -> x.setRate(door, 20 * door - 50));
            say(all, "meetDoor", () -> x.meetDoor(phone, door));
            say(all, "meetCloud", () -> x.meetCloud(phone));
        }
        say(all, "setTimes", () -> x.setTimes(0, 1, 70000));
        say(all, "setDoors", () -> x.setDoors(1, 9));
        say(all, "revoke", () -> x.revoke(2));
        say(all, "pass", () -> x.pass(44));
        return all.append(now(x)).toString();
    }

    private static void say(StringBuilder all, String name, Checks.Call call) {
        all.append(name).append(' ').append(Checks.answerOf(call)).append(' ');
    }
}
