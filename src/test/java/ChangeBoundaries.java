import java.util.function.Supplier;

/** Promises 1 to 6: a new object, and the changes of keys. */
final class ChangeBoundaries extends Boundaries {
    private static final int[][] TIMES_OUT_OF_RANGE = {{-1, 1}, {Integer.MIN_VALUE, 1}, {100000, 100001},
        {100000, 100000}, {Integer.MAX_VALUE, Integer.MAX_VALUE}, {5, 5}, {6, 5}, {0, 0}, {0, -1}, {0, 100001},
        {99999, 100001}, {5, Integer.MIN_VALUE}, {0, Integer.MAX_VALUE}, {Integer.MIN_VALUE, Integer.MAX_VALUE}};
    private static final int[] SETS_OUT_OF_RANGE = {-1, 32, 63, Integer.MIN_VALUE, Integer.MAX_VALUE};
    /** In a busy town. */
    private static final int REVOKED = 4;

    ChangeBoundaries(Checks checks) {
        super(checks);
    }

    /** A change of times or doors, so that promises 2 to 4 share their tests of ranges. */
    private interface Timing {
        Object make(Doorledger x, int from, int to);
    }

    private interface Setting {
        Object make(Doorledger x, int doors);
    }

    private interface Keying {
        Object make(Doorledger x, int key);
    }

    @Override
    void all(Sentences s) {
        s.under("Promise 1");
        s.test("Creates a ledger without keys, doors and phones, at minute 0.", this::newObject);
        addKey(s);
        setTimes(s);
        setDoors(s);
        revoke(s);
        s.under("Promise 6");
        s.test("Returns the version of the list of the cloud.", this::versionAtFirst);
        s.test("Returns the version.", this::versionUpToTheLast);
    }

    private void addKey(Sentences s) {
        s.under("Promise 2");
        s.test("Adds a key.", this::addsAKey);
        s.test("This is a change.", this::addKeyIsAChange);
        s.test("- `doors`", this::setOfAddKey);
        s.test("- `from`", () -> firstMinutes((x, from, to) -> x.addKey(31, from, to)));
        s.test("- `to`", () -> ends((x, from, to) -> x.addKey(31, from, to)));
        s.test("Returns the number of the key.", this::numbersOfKeys);
        s.test("Throws `IllegalArgumentException`", this::addKeyOutOfRange);
        s.test("Throws `IllegalStateException`", this::addKeyFull);
    }

    private void setTimes(Sentences s) {
        s.under("Promise 3");
        s.test("Sets the times of a key.", this::setsTheTimes);
        s.test("This is a change, also if they are the same.", () -> isAChangeEachTime((x, key) -> x.setTimes(key, 1, 1000)));
        s.test("- `key`", () -> firstAndLastKey((x, key) -> x.setTimes(key, 500, 600), 'e'));
        s.test("- `from`", () -> firstMinutes(ChangeBoundaries::addAndSetTimes));
        s.test("- `to`", () -> ends(ChangeBoundaries::addAndSetTimes));
        s.test("Returns the version then.", () -> versionsThen((x, key) -> x.setTimes(key, 0, 1)));
        s.test("Throws `NoSuchElementException`", this::setTimesOfNoKey);
        s.test("Throws `IllegalArgumentException`", this::setTimesOutOfRange);
        s.test("Throws `IllegalStateException`", () -> refusedByState("setTimes", (x, key) -> x.setTimes(key, 0, 1)));
    }

    private void setDoors(Sentences s) {
        s.under("Promise 4");
        s.test("Sets the doors of a key.", this::setsTheDoors);
        s.test("This is a change, also if they are the same.", () -> isAChangeEachTime((x, key) -> x.setDoors(key, 31)));
        s.test("- `key`", () -> firstAndLastKey((x, key) -> x.setDoors(key, 0), 'd'));
        s.test("- `doors`", this::setOfSetDoors);
        s.test("Returns the version then.", () -> versionsThen((x, key) -> x.setDoors(key, 0)));
        s.test("Throws `NoSuchElementException`", this::setDoorsOfNoKey);
        s.test("Throws `IllegalArgumentException`", this::setDoorsOutOfRange);
        s.test("Throws `IllegalStateException`", () -> refusedByState("setDoors", (x, key) -> x.setDoors(key, 0)));
    }

    private void revoke(Sentences s) {
        s.under("Promise 5");
        s.test("Revokes a key.", this::revokes);
        s.test("This is a change.", () -> isAChange((x, key) -> x.revoke(key)));
        s.test("- `key`", () -> firstAndLastKey((x, key) -> x.revoke(key), 'r'));
        s.test("Returns the version then.", () -> versionsThen((x, key) -> x.revoke(key)));
        s.test("Throws `NoSuchElementException`", this::revokeOfNoKey);
        s.test("Throws `IllegalStateException`", () -> refusedByState("revoke", (x, key) -> x.revoke(key)));
    }

    private void newObject() {
        Supplier<Doorledger> fresh = Ledgers::fresh;
        refused("setTimes(0, 0, 1)", fresh, x -> x.setTimes(0, 0, 1), ELEMENT);
        refused("setDoors(0, 1)", fresh, x -> x.setDoors(0, 1), ELEMENT);
        refused("revoke(0)", fresh, x -> x.revoke(0), ELEMENT);
        refused("clock(0)", fresh, x -> x.clock(0), INDEX);
        refused("setRate(0, 0)", fresh, x -> x.setRate(0, 0), INDEX);
        refused("versionOn(0)", fresh, x -> x.versionOn(0), INDEX);
        refused("meetCloud(0)", fresh, x -> x.meetCloud(0), INDEX);
        Doorledger x = Ledgers.fresh();
        due("time()", x.time(), 0);
        due("version()", x.version(), 0);
        due("audits()", x.audits(), 0);
        due("breaches()", x.breaches(), 0);
        due("delays()", x.delays(), 0L);
        due("isSound()", x.isSound(), true);
        Ledgers.busyTown();
        due("version() beside another object", x.version(), 0);
        due("addKey", x.addKey(0, 0, 1), 0);
        due("addDoor()", x.addDoor(), 0);
        due("addPhone()", x.addPhone(), 0);
    }

    private void addsAKey() {
        Doorledger x = Ledgers.fresh();
        x.addDoor();
        dueThrow("answer(0, 0) ahead of it", () -> x.answer(0, 0), ELEMENT);
        x.addKey(2, 3, 7);
        dueThrow("answer(0, 1) after it", () -> x.answer(0, 1), ELEMENT);
        due("answer(0, 0) by the old list", x.answer(0, 0), 'u');
        x.addDoor();
        due("fromIn(1, 0)", x.fromIn(1, 0), 3);
        timesKept(x, 1, 0, 3, 7);
        x.addDoor();
        due("answer(2, 0), not in the set", x.answer(2, 0), 'd');
    }

    private void addKeyIsAChange() {
        for (int version : new int[] {0, 1, 49}) {
            Doorledger x = Ledgers.withChanges(version);
            x.addKey(0, 0, 1);
            due("version() behind " + version, x.version(), version + 1);
        }
    }

    private void setOfAddKey() {
        setsKept((x, doors) -> x.addKey(doors, 0, 1000));
        setsRefused("addKey", (x, doors) -> x.addKey(doors, 0, 1));
        Doorledger x = Ledgers.fresh();
        due("addKey(31, 0, 1) without any door", x.addKey(31, 0, 1), 0);
        due("addKey(16, 0, 1) without any door", x.addKey(16, 0, 1), 1);
    }

    /** A change to each of the 32 sets, made by the change ahead of any door, as key 0. */
    private void setsKept(Setting change) {
        for (int doors = 0; doors <= 31; doors++) {
            Doorledger x = Ledgers.fresh();
            change.make(x, doors);
            for (int door = 0; door < Ledgers.DOORS; door++) {
                x.addDoor();
                boolean isInSet = doors / (int) Math.pow(2, door) % 2 == 1;
                due("answer(" + door + ", 0) when the set is " + doors, x.answer(door, 0), isInSet ? 'o' : 'd');
            }
        }
    }

    private void setsRefused(String call, Setting change) {
        for (int doors : SETS_OUT_OF_RANGE) {
            refused(call + " to the set " + doors, Ledgers::busyTown, x -> change.make(x, doors), ARGUMENT);
        }
    }

    /** The change makes key 0 of a new object. */
    private void firstMinutes(Timing change) {
        int[][] taken = {{0, 1}, {0, 3}, {1, 3}, {99998, 100000}, {99999, 100000}};
        for (int[] t : taken) {
            Doorledger x = Ledgers.fresh();
            change.make(x, t[0], t[1]);
            x.addDoor();
            due("fromIn(0, 0) when it is from " + t[0], x.fromIn(0, 0), t[0]);
            timesKept(x, 0, 0, t[0], t[1]);
        }
        for (int from : new int[] {-1, Integer.MIN_VALUE}) {
            dueThrow("from " + from + " to 1", () -> change.make(Ledgers.fresh(), from, 1), ARGUMENT);
        }
        for (int from : new int[] {100000, 100001, Integer.MAX_VALUE - 1}) {
            dueThrow("from " + from + " to the next", () -> change.make(Ledgers.fresh(), from, from + 1), ARGUMENT);
            dueThrow("from " + from + " to 100000", () -> change.make(Ledgers.fresh(), from, 100000), ARGUMENT);
        }
    }

    private void ends(Timing change) {
        int[][] taken = {{0, 1}, {5, 6}, {5, 7}, {0, 99999}, {0, 100000}, {99999, 100000}};
        for (int[] t : taken) {
            Doorledger x = Ledgers.fresh();
            change.make(x, t[0], t[1]);
            x.addDoor();
            timesKept(x, 0, 0, t[0], t[1]);
        }
        int[][] bad = {{5, 5}, {5, 4}, {0, 0}, {0, -1}, {99999, 99999}, {0, 100001}, {99999, 100001},
            {5, Integer.MIN_VALUE}, {5, Integer.MAX_VALUE}};
        for (int[] b : bad) {
            dueThrow("from " + b[0] + " to " + b[1], () -> change.make(Ledgers.fresh(), b[0], b[1]), ARGUMENT);
        }
    }

    private static int addAndSetTimes(Doorledger x, int from, int to) {
        x.addKey(31, 50, 60);
        return x.setTimes(0, from, to);
    }

    private void numbersOfKeys() {
        Doorledger x = Ledgers.fresh();
        for (int key = 0; key < Ledgers.KEYS; key++) {
            due("addKey", x.addKey(31, 0, 1), key);
            x.setDoors(key, 0);
        }
    }

    private void addKeyOutOfRange() {
        for (int[] t : TIMES_OUT_OF_RANGE) {
            refused("addKey from " + t[0] + " to " + t[1], Ledgers::busyTown, x -> x.addKey(31, t[0], t[1]), ARGUMENT);
        }
        for (int doors : SETS_OUT_OF_RANGE) {
            refused("addKey of " + doors, Ledgers::busyTown, x -> x.addKey(doors, 0, 1), ARGUMENT);
        }
        refused("addKey, 8 keys, bad set", Ledgers.again(Ledgers::townWithKeys, 8), x -> x.addKey(32, 0, 1), ARGUMENT);
        refused("addKey, 8 keys, bad times", Ledgers.again(Ledgers::townWithKeys, 8), x -> x.addKey(31, 1, 1), ARGUMENT);
        refused("addKey, 50 changes, bad set", Ledgers.again(Ledgers::townWithChanges, 50), x -> x.addKey(-1, 0, 1), ARGUMENT);
        refused("addKey, 50 changes, bad times", Ledgers.again(Ledgers::townWithChanges, 50), x -> x.addKey(31, -1, 1), ARGUMENT);
    }

    private void addKeyFull() {
        refused("addKey, 8 keys", Ledgers.again(Ledgers::townWithKeys, 8), x -> x.addKey(31, 0, 1), STATE);
        refused("addKey, 50 changes", Ledgers.again(Ledgers::townWithChanges, 50), x -> x.addKey(31, 0, 1), STATE);
        due("addKey, 7 keys", Ledgers.townWithKeys(7).addKey(31, 0, 1), 7);
        due("addKey, 49 changes", Ledgers.townWithChanges(49).addKey(31, 0, 1), 5);
        Doorledger revoked = Ledgers.townWithKeys(8);
        revoked.revoke(7);
        dueThrow("addKey, 8 keys with revoked ones", () -> revoked.addKey(31, 0, 1), STATE);
    }

    private void setsTheTimes() {
        Doorledger x = Ledgers.fresh();
        x.addKey(2, 5, 9);
        x.addKey(1, 50, 60);
        x.setTimes(0, 11, 20);
        x.addDoor();
        x.addDoor();
        due("fromIn(1, 0)", x.fromIn(1, 0), 11);
        due("fromIn(1, 1), another key", x.fromIn(1, 1), 50);
        due("answer(0, 0), its doors stay", x.answer(0, 0), 'd');
        timesKept(x, 1, 0, 11, 20);
        timesKept(x, 0, 1, 50, 60);
    }

    /** The change leaves the first key and the last key of 8 as they are by the other list, and no other one. */
    private void firstAndLastKey(Keying change, char letter) {
        for (int changed : new int[] {0, 7}) {
            Doorledger x = Ledgers.withKeys(8);
            change.make(x, changed);
            x.addDoor();
            for (int key = 0; key < 8; key++) {
                due("answer(2, " + key + ") when key " + changed + " is changed", x.answer(2, key), key == changed ? letter : 'o');
            }
        }
    }

    private void isAChange(Keying change) {
        for (int version : new int[] {1, 2, 49}) {
            Doorledger x = Ledgers.withChanges(version);
            change.make(x, 0);
            due("version() behind " + version, x.version(), version + 1);
        }
    }

    private void isAChangeEachTime(Keying change) {
        isAChange(change);
        Doorledger x = Ledgers.withChanges(48);
        for (int version = 49; version <= 50; version++) {
            change.make(x, 0);
            due("version() after the same again", x.version(), version);
        }
    }

    private void versionsThen(Keying change) {
        for (int version : new int[] {1, 2, 49}) {
            due("the version behind " + version, change.make(Ledgers.withChanges(version), 0), version + 1);
        }
    }

    private void setTimesOfNoKey() {
        noSuchKey("setTimes", (x, key) -> x.setTimes(key, 0, 1));
        noSuchKeyToo("setTimes, bad times", (x, key) -> x.setTimes(key, 1, 1));
        noSuchKeyToo("setTimes", (x, key) -> x.setTimes(key, 0, 1));
    }

    /** The number of a key is looked at first: also where the other arguments are bad, and where 50 changes were made. */
    private void noSuchKeyToo(String call, Keying change) {
        for (int key : new int[] {-1, 5}) {
            refused(call + " of key " + key, Ledgers::busyTown, x -> change.make(x, key), ELEMENT);
            refused(call + " of key " + key + ", 50 changes", Ledgers.again(Ledgers::townWithChanges, 50),
                x -> change.make(x, key), ELEMENT);
        }
    }

    private void setTimesOutOfRange() {
        for (int[] t : TIMES_OUT_OF_RANGE) {
            String call = "setTimes from " + t[0] + " to " + t[1];
            refused(call, Ledgers::busyTown, x -> x.setTimes(0, t[0], t[1]), ARGUMENT);
            refused(call + ", revoked", Ledgers::busyTown, x -> x.setTimes(REVOKED, t[0], t[1]), ARGUMENT);
        }
        refused("setTimes, 50 changes, bad times", Ledgers.again(Ledgers::townWithChanges, 50), x -> x.setTimes(0, 1, 1), ARGUMENT);
    }

    private void refusedByState(String call, Keying change) {
        refused(call + ", revoked", Ledgers::busyTown, x -> change.make(x, REVOKED), STATE);
        refused(call + ", 50 changes", Ledgers.again(Ledgers::townWithChanges, 50), x -> change.make(x, 0), STATE);
        refused(call + ", 50 changes, revoked", Ledgers.again(Ledgers::townWithChanges, 50), x -> change.make(x, REVOKED), STATE);
        due(call + ", 49 changes", change.make(Ledgers.townWithChanges(49), 0), 50);
        Doorledger last = Ledgers.townWithChanges(49);
        last.revoke(0);
        dueThrow(call + ", revoked by the 50th change", () -> change.make(last, 0), STATE);
    }

    private void setsTheDoors() {
        Doorledger x = Ledgers.fresh();
        x.addKey(1, 5, 9);
        x.addKey(1, 0, 100);
        x.setDoors(0, 2);
        x.addDoor();
        x.addDoor();
        due("answer(0, 0), no longer in the set", x.answer(0, 0), 'd');
        due("answer(0, 1), another key", x.answer(0, 1), 'o');
        due("answer(1, 1), another key", x.answer(1, 1), 'd');
        due("fromIn(1, 0), its times stay", x.fromIn(1, 0), 5);
        timesKept(x, 1, 0, 5, 9);
    }

    private void setOfSetDoors() {
        setsKept((x, doors) -> {
            x.addKey(~doors & 31, 0, 1000);
            return x.setDoors(0, doors);
        });
        setsRefused("setDoors", (x, doors) -> x.setDoors(0, doors));
    }

    private void setDoorsOfNoKey() {
        noSuchKey("setDoors", (x, key) -> x.setDoors(key, 31));
        noSuchKeyToo("setDoors, bad set", (x, key) -> x.setDoors(key, 32));
        noSuchKeyToo("setDoors", (x, key) -> x.setDoors(key, 31));
    }

    private void setDoorsOutOfRange() {
        setsRefused("setDoors", (x, doors) -> x.setDoors(0, doors));
        setsRefused("setDoors, revoked", (x, doors) -> x.setDoors(REVOKED, doors));
        refused("setDoors, 50 changes, bad set", Ledgers.again(Ledgers::townWithChanges, 50), x -> x.setDoors(0, 32), ARGUMENT);
    }

    private void revokes() {
        Doorledger x = Ledgers.fresh();
        x.addKey(1, 5, 9);
        x.addKey(1, 0, 9);
        x.addDoor();
        x.revoke(0);
        x.addDoor();
        due("answer(0, 0), the old list", x.answer(0, 0), 'e');
        due("answer(1, 0), not in its set", x.answer(1, 0), 'r');
        due("answer(1, 1), another key", x.answer(1, 1), 'd');
        due("fromIn(1, 0), its times are kept", x.fromIn(1, 0), 5);
        dueThrow("revoke(0) once more", () -> x.revoke(0), STATE);
    }

    private void revokeOfNoKey() {
        noSuchKey("revoke", (x, key) -> x.revoke(key));
        noSuchKeyToo("revoke", (x, key) -> x.revoke(key));
    }

    private void versionAtFirst() {
        Doorledger x = Ledgers.fresh();
        due("version() at first", x.version(), 0);
        x.addDoor();
        x.addPhone();
        x.pass(1);
        x.meetCloud(0);
        x.meetDoor(0, 0);
        x.setRate(0, 1);
        due("version() when nothing has changed", x.version(), 0);
        dueThrow("addKey(0, 1, 1)", () -> x.addKey(0, 1, 1), ARGUMENT);
        due("version() after a refused change", x.version(), 0);
    }

    private void versionUpToTheLast() {
        for (int changes = 0; changes <= Ledgers.CHANGES; changes++) {
            due("version() after " + changes + " changes", Ledgers.withChanges(changes).version(), changes);
        }
        Doorledger full = Ledgers.withChanges(50);
        dueThrow("setDoors(0, 1), the 51st", () -> full.setDoors(0, 1), STATE);
        due("version() after the 51st", full.version(), 50);
    }
}
