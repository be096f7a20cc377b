import java.util.function.IntFunction;

/** Ledgers with a number of keys, changes, doors, phones or audits, and all that else there can be beside them. */
final class Ledgers {
    static final int KEYS = 8;
    static final int CHANGES = 50;
    static final int DOORS = 5;
    static final int PHONES = 3;
    static final int AUDITS = 60;
    static final int END_OF_TIME = 100000;
    /** The version and the number of audits of a town, and its time. */
    static final int TOWN_VERSION = 6;
    static final int TOWN_AUDITS = 10;
    static final int TOWN_TIME = 150;

    private Ledgers() {
    }

    static Doorledger fresh() {
        return new Doorledger();
    }

    static Doorledger passTo(Doorledger x, int minute) {
        for (int left = minute - x.time(); left > 0; left -= 10000) {
            x.pass(Math.min(left, 10000));
        }
        return x;
    }

    /**
     * Five doors, three phones and five keys at minute 150. Door d has version d + 1, so that key d is the last that it
     * knows; its rate is 1.0f + d / 10, its clock shows 150 + 10 d, and d audits with key 0, all of them 'o', wait at it.
     * Key k begins at 10 k; key 4 is revoked. Phone 0 has version 0, phone 1 has 5 and phone 2 has 6, the present one.
     */
    static Doorledger town() {
        Doorledger x = new Doorledger();
        for (int door = 0; door < DOORS; door++) {
            x.addKey(31, 10 * door, 1000);
            x.pass(10);
            x.addDoor();
        }
        for (int phone = 0; phone < PHONES; phone++) {
            x.addPhone();
        }
        for (int door = 0; door < DOORS; door++) {
            x.setRate(door, 100 * door);
        }
        x.pass(100);
        x.meetCloud(1);
        x.revoke(4);
        x.meetCloud(2);
        for (int door = 0; door < DOORS; door++) {
            for (int i = 0; i < door; i++) {
                x.open(door, 0);
            }
        }
        return x;
    }

    /** A town with key 0 cut short in the minute of its audits, of which one has arrived, and two are carried. */
    static Doorledger busyTown() {
        Doorledger x = town();
        x.setTimes(0, 0, 100);
        x.meetDoor(1, 1);
        x.pass(3);
        x.meetCloud(1);
        x.meetDoor(2, 2);
        return x;
    }

    /** A ledger with so many keys, and two doors that know them. */
    static Doorledger withKeys(int keys) {
        Doorledger x = new Doorledger();
        for (int key = 0; key < keys; key++) {
            x.addKey(31, key, 1000 + key);
        }
        return peopled(x, 2, 1);
    }

    /** A busy town with so many keys, 5 at least. */
    static Doorledger townWithKeys(int keys) {
        Doorledger x = busyTown();
        for (int key = 5; key < keys; key++) {
            x.addKey(31, key, 1000);
        }
        return x;
    }

    /** A busy town with so many changes. */
    static Doorledger townWithChanges(int changes) {
        Doorledger x = busyTown();
        for (int version = x.version(); version < changes; version++) {
            x.setDoors(3, 31);
        }
        return x;
    }

    /** A busy town with so many audits. */
    static Doorledger townWithAudits(int audits) {
        Doorledger x = busyTown();
        for (int audit = TOWN_AUDITS; audit < audits; audit++) {
            x.open(audit % DOORS, 0);
        }
        return x;
    }

    /** A busy town at the minute. */
    static Doorledger townAt(int minute) {
        return passTo(busyTown(), minute);
    }

    /** Two keys, so many doors and a phone. */
    static Doorledger withDoors(int doors) {
        Doorledger x = new Doorledger();
        x.addKey(31, 0, 1000);
        x.addKey(31, 1, 1000);
        return peopled(x, doors, 1);
    }

    /** Two keys, two doors and so many phones. */
    static Doorledger withPhones(int phones) {
        Doorledger x = new Doorledger();
        x.addKey(31, 0, 1000);
        x.addKey(31, 1, 1000);
        return peopled(x, 2, phones);
    }

    private static Doorledger peopled(Doorledger x, int doors, int phones) {
        for (int door = 0; door < doors; door++) {
            x.addDoor();
        }
        for (int phone = 0; phone < phones; phone++) {
            x.addPhone();
        }
        x.pass(20);
        return x;
    }

    /** Key 0, good at each door from minute 0 to 1000, a door, two phones, and so many audits 'o' at minute 0. */
    static Doorledger withAudits(int audits) {
        Doorledger x = new Doorledger();
        x.addKey(31, 0, 1000);
        x.addDoor();
        x.addPhone();
        x.addPhone();
        for (int audit = 0; audit < audits; audit++) {
            x.open(0, 0);
        }
        return x;
    }

    /** So many changes; the last one lets key 0 begin at the minute that is its number. */
    static Doorledger withChanges(int changes) {
        Doorledger x = new Doorledger();
        for (int version = 1; version <= changes; version++) {
            if (version == 1) {
                x.addKey(31, 1, 1000);
            } else {
                x.setTimes(0, version, 1000);
            }
        }
        return x;
    }

    /** The ledger with the number, as one that can be made again. */
    static java.util.function.Supplier<Doorledger> again(IntFunction<Doorledger> setup, int number) {
        return () -> setup.apply(number);
    }
}
