import java.util.ArrayList;
import java.util.List;
import java.util.function.Consumer;
import java.util.function.Function;

/** What the document says ahead of its promises: "What it is" and "Terms". */
final class TermBoundaries extends Boundaries {
    /** The minute of the opening whose breach is asked for. */
    private static final int OPENED = 10;

    TermBoundaries(Checks checks) {
        super(checks);
    }

    @Override
    void all(Sentences s) {
        s.under("What it is");
        s.namesNoBoundary("The ledger of a maker of locks");
        s.test("An object is used for at most 512 calls", this::upToTheLastCall);
        // FaceTest looks at the face.
        s.under("The public face");
        s.namesNoBoundary("```java");
        s.namesNoBoundary("public final class Doorledger {");
        s.under("Not promised");
        s.namesNoBoundary("How the state is held");
        s.namesNoBoundary("Use of one object from several threads");
        s.namesNoBoundary("Nothing is promised beyond");
        s.under("Terms");
        titles(s);
        keysAndTime(s);
        doors(s);
        openingsAndPhones(s);
        s.test("An audit with the letter 'o' that has arrived is a breach if", this::breachesOfAMinute);
        s.test("(If the clock showed a minute that is later", this::breachesOfALaterMinute);
        s.test("A method that throws an exception changes nothing.", this::refusedCallsChangeNothing);
        s.test("If several exceptions apply", this::firstListedIsThrown);
    }

    private static void titles(Sentences s) {
        for (String title : new String[] {"Time.", "Keys and versions.", "Doors.", "Openings.", "Phones.", "Breaches.", "Exceptions."}) {
            s.namesNoBoundary(title);
        }
    }

    private void keysAndTime(Sentences s) {
        s.test("Its calls are what happens", this::askingChangesNothing);
        s.test("A breach is told of each opening", this::eachOpeningIsTold);
        s.test("Time is counted in minutes", this::firstAndLastMinute);
        s.test("At most 8 keys", this::firstAndLastKey);
        s.test("A key has a set of doors", this::setsAndTimes);
        s.test("The cloud has a list", this::allKeysAsTheyAreNow);
        s.test("The version of the list is 0 at first", this::versionsKept);
        s.test("There are at most 50 versions", this::lastVersion);
    }

    private void doors(Sentences s) {
        s.test("At most 5 doors", this::firstAndLastDoor);
        s.test("A door has the list of a version", this::firstListOfADoor);
        s.test("Its clock was set at some time", this::firstClockOfADoor);
        s.test("It has a rate", this::firstRate);
        s.test("The drifted minutes are", this::driftedMinutes);
        s.test("The clock shows the minute", this::cutOff);
    }

    private void openingsAndPhones(Sentences s) {
        s.test("When a key is tried at a door", this::firstLetterThatFits);
        s.test("Each try is an audit", this::whatAnAuditKeeps);
        s.test("At most 60 audits", this::firstAndLastAudit);
        s.test("At most 3 phones", this::firstAndLastPhone);
        s.test("A phone has a list of a version", this::firstListOfAPhone);
        s.test("When a phone meets the cloud", this::phoneAndCloud);
        s.test("When a phone meets a door", this::phoneAndDoor);
    }

    private void upToTheLastCall() {
        Doorledger x = Ledgers.fresh();
        x.addDoor();
        x.addPhone();
        x.addKey(31, 0, 1);
        for (int call = 4; call <= 508; call++) {
            x.meetDoor(0, 0);
        }
        x.meetCloud(0);
        x.meetDoor(0, 0);
        due("versionOf(0), the 511th call", x.versionOf(0), 1);
        due("versionByReplay(0), the 512th call", x.versionByReplay(0), 1);
        Doorledger y = Ledgers.fresh();
        y.addDoor();
        y.addPhone();
        y.addKey(31, 0, 1);
        for (int call = 4; call <= 510; call++) {
            y.meetCloud(0);
        }
        y.meetDoor(0, 0);
        due("isSound(), the 512th call", y.isSound(), true);
        Doorledger z = Ledgers.fresh();
        for (int minute = 1; minute <= 512; minute++) {
            due("pass(1), call " + minute, z.pass(1), minute);
        }
    }

    /** Every call that asks, on each number that there is: afterwards all is as in an untouched twin. */
    private void askingChangesNothing() {
        for (Function<Doorledger, String> part : Portrait.PARTS) {
            Doorledger asked = Ledgers.busyTown();
            askAll(asked);
            due("the portrait after asking", part.apply(asked), part.apply(Ledgers.busyTown()));
        }
    }

    private static void askAll(Doorledger x) {
        for (int door = 0; door < 2; door++) {
            x.answer(door, 4);
            x.clock(door);
            x.drifted(door);
            x.driftedBits(door);
            x.versionOf(door);
            x.versionByReplay(door);
            x.fromIn(door, 0);
            x.waiting(door);
            x.breachesAt(door);
        }
        for (int audit = 0; audit < 2; audit++) {
            x.letterOf(audit);
            x.letterByList(audit);
            x.minuteOf(audit);
            x.versionAt(audit);
            x.hasArrived(audit);
            x.isBreach(audit);
        }
        x.versionOn(0);
        x.carried(2);
        x.version();
        x.time();
        x.audits();
        x.breaches();
        x.delays();
        x.meanDelay();
        x.meanBits();
        x.arrivedShare();
        x.isSound();
    }

    private void eachOpeningIsTold() {
        Doorledger x = Ledgers.fresh();
        x.addKey(1, 0, 100);
        x.addDoor();
        x.addDoor();
        x.addPhone();
        x.addPhone();
        x.revoke(0);
        for (int pair = 0; pair < 30; pair++) {
            due("open(0, 0)", x.open(0, 0), 'o');
            due("open(1, 0)", x.open(1, 0), 'd');
        }
        x.meetDoor(0, 0);
        x.meetDoor(1, 1);
        x.meetCloud(1);
        due("breaches() when what did not open has arrived", x.breaches(), 0);
        x.meetCloud(0);
        due("breaches() when all have arrived", x.breaches(), 30);
        for (int audit = 0; audit < Ledgers.AUDITS; audit++) {
            due("isBreach(" + audit + ")", x.isBreach(audit), audit % 2 == 0);
        }
    }

    private void firstAndLastMinute() {
        Doorledger x = Ledgers.fresh();
        due("time() at first", x.time(), 0);
        Ledgers.passTo(x, 99999);
        due("time() ahead of the end", x.time(), 99999);
        dueThrow("pass(2)", () -> x.pass(2), ARGUMENT);
        due("pass(1)", x.pass(1), 100000);
        dueThrow("pass(1) at the end", () -> x.pass(1), ARGUMENT);
        due("time() at the end", x.time(), 100000);
    }

    private void firstAndLastKey() {
        Doorledger x = Ledgers.fresh();
        x.addDoor();
        for (int number = 0; number < Ledgers.KEYS; number++) {
            int key = number;
            dueThrow("answer(0, " + key + ") ahead of it", () -> x.answer(0, key), ELEMENT);
            due("addKey", x.addKey(1, 0, 1), key);
            due("answer(0, " + key + ")", x.answer(0, key), 'u');
        }
        dueThrow("answer(0, 8)", () -> x.answer(0, 8), ELEMENT);
        dueThrow("addKey, the ninth", () -> x.addKey(1, 0, 1), STATE);
        dueThrow("answer(0, 8) after it", () -> x.answer(0, 8), ELEMENT);
    }

    private void setsAndTimes() {
        Doorledger x = Ledgers.fresh();
        for (int door = 0; door < Ledgers.DOORS; door++) {
            x.addKey((int) Math.pow(2, door), 0, 1000);
        }
        x.addKey(0, 0, 1000);
        x.addKey(31, 0, 1000);
        for (int door = 0; door < Ledgers.DOORS; door++) {
            x.addDoor();
            for (int key = 0; key < Ledgers.DOORS; key++) {
                due("answer(" + door + ", " + key + ")", x.answer(door, key), key == door ? 'o' : 'd');
            }
            due("answer(" + door + ", 5), no door", x.answer(door, 5), 'd');
            due("answer(" + door + ", 6), all doors", x.answer(door, 6), 'o');
        }
        int[][] times = {{0, 1}, {10, 11}, {10, 12}, {99999, 100000}};
        for (int[] t : times) {
            Doorledger y = Ledgers.fresh();
            y.addKey(31, t[0], t[1]);
            y.addDoor();
            timesKept(y, 0, 0, t[0], t[1]);
            y.revoke(0);
            dueThrow("setTimes(0, 0, 1) of a revoked key", () -> y.setTimes(0, 0, 1), STATE);
        }
    }

    private void allKeysAsTheyAreNow() {
        Doorledger x = Ledgers.fresh();
        x.addDoor();
        for (int key = 0; key < Ledgers.KEYS; key++) {
            x.addKey(31, key, 1000);
        }
        x.addDoor();
        x.setTimes(7, 77, 1000);
        x.setDoors(6, 0);
        x.revoke(0);
        x.addDoor();
        due("answer(0, 0), a list without keys", x.answer(0, 0), 'u');
        due("answer(0, 7), a list without keys", x.answer(0, 7), 'u');
        x.pass(7);
        due("answer(1, 0)", x.answer(1, 0), 'o');
        due("answer(1, 7)", x.answer(1, 7), 'o');
        due("answer(2, 0), revoked", x.answer(2, 0), 'r');
        for (int key = 1; key < 6; key++) {
            due("answer(2, " + key + ")", x.answer(2, key), 'o');
            due("fromIn(2, " + key + ")", x.fromIn(2, key), key);
        }
        due("answer(2, 6), its doors were taken", x.answer(2, 6), 'd');
        due("fromIn(2, 7)", x.fromIn(2, 7), 77);
    }

    private void versionsKept() {
        Doorledger x = Ledgers.fresh();
        due("version() at first", x.version(), 0);
        x.addDoor();
        x.addKey(31, 0, 100);
        due("version() after addKey", x.version(), 1);
        x.addDoor();
        due("setTimes", x.setTimes(0, 5, 100), 2);
        x.addDoor();
        due("setDoors", x.setDoors(0, 7), 3);
        x.addDoor();
        due("revoke", x.revoke(0), 4);
        x.addDoor();
        for (int door = 0; door < Ledgers.DOORS; door++) {
            due("versionOf(" + door + ")", x.versionOf(door), door);
            due("answer(" + door + ", 0) at 0", x.answer(door, 0), "uoedr".charAt(door));
        }
        x.pass(5);
        for (int door = 0; door < Ledgers.DOORS; door++) {
            due("answer(" + door + ", 0) at 5", x.answer(door, 0), "uoodr".charAt(door));
        }
    }

    private void lastVersion() {
        due("addKey, the 50th change", Ledgers.withChanges(49).addKey(0, 0, 1), 1);
        due("setTimes, the 50th change", Ledgers.withChanges(49).setTimes(0, 0, 1), 50);
        due("setDoors, the 50th change", Ledgers.withChanges(49).setDoors(0, 0), 50);
        due("revoke, the 50th change", Ledgers.withChanges(49).revoke(0), 50);
        refused("addKey, the 51st", Ledgers.again(Ledgers::withChanges, 50), x -> x.addKey(0, 0, 1), STATE);
        refused("setTimes, the 51st", Ledgers.again(Ledgers::withChanges, 50), x -> x.setTimes(0, 0, 1), STATE);
        refused("setDoors, the 51st", Ledgers.again(Ledgers::withChanges, 50), x -> x.setDoors(0, 0), STATE);
        refused("revoke, the 51st", Ledgers.again(Ledgers::withChanges, 50), x -> x.revoke(0), STATE);
        Doorledger x = Ledgers.withChanges(50);
        x.addDoor();
        due("versionOf(0) by the last version", x.versionOf(0), 50);
        due("fromIn(0, 0) by the last version", x.fromIn(0, 0), 50);
    }

    private void firstAndLastDoor() {
        Doorledger x = Ledgers.fresh();
        for (int number = 0; number < Ledgers.DOORS; number++) {
            int door = number;
            dueThrow("waiting(" + door + ") ahead of it", () -> x.waiting(door), INDEX);
            due("addDoor()", x.addDoor(), door);
            due("waiting(" + door + ")", x.waiting(door), 0);
        }
        dueThrow("waiting(5)", () -> x.waiting(5), INDEX);
        dueThrow("addDoor(), the sixth", x::addDoor, STATE);
        dueThrow("waiting(5) after it", () -> x.waiting(5), INDEX);
    }

    private void firstListOfADoor() {
        for (int changes : new int[] {0, 1, 2, 49, 50}) {
            Doorledger x = Ledgers.withChanges(changes);
            x.addDoor();
            due("versionOf(0), added at version " + changes, x.versionOf(0), changes);
            if (changes == 0) {
                dueThrow("fromIn(0, 0) by version 0", () -> x.fromIn(0, 0), ELEMENT);
            } else {
                due("fromIn(0, 0) by version " + changes, x.fromIn(0, 0), changes);
            }
        }
    }

    private void firstClockOfADoor() {
        for (int minute : new int[] {0, 1, 99999, 100000}) {
            Doorledger x = Ledgers.passTo(Ledgers.fresh(), minute);
            x.addDoor();
            due("clock(0), added at " + minute, x.clock(0), minute);
            due("drifted(0), added at " + minute, x.drifted(0), 0.0f);
            if (minute < 100000) {
                x.pass(1);
                due("clock(0), a minute later", x.clock(0), minute + 1);
                due("drifted(0), a minute later", x.drifted(0), 1.0f);
            }
        }
    }

    private void firstRate() {
        for (int minutes : new int[] {0, 1, 99999, 100000}) {
            Doorledger x = Ledgers.fresh();
            x.addDoor();
            Ledgers.passTo(x, minutes);
            due("drifted(0) after " + minutes, x.drifted(0), (float) minutes);
        }
    }

    /** A door added at minute 3, with the rate, after so many minutes. */
    private static Doorledger drifting(int thousandths, int minutes) {
        Doorledger x = Ledgers.passTo(Ledgers.fresh(), 3);
        x.addDoor();
        x.setRate(0, thousandths);
        return Ledgers.passTo(x, 3 + minutes);
    }

    private void driftedMinutes() {
        for (int thousandths : new int[] {-500, -499, -300, -1, 0, 1, 333, 499, 500}) {
            for (int minutes : new int[] {0, 1, 2, 10, 99996, 99997}) {
                float due = (float) minutes * (1.0f + ((float) thousandths / 1000.0f));
                due("drifted(0) at the rate of " + thousandths + " after " + minutes, drifting(thousandths, minutes).drifted(0), due);
            }
        }
        due("drifted(0), rounded as a float", drifting(-300, 10).drifted(0), 7.0f);
    }

    private void cutOff() {
        int[][] due = {{-500, 0, 0}, {-500, 1, 0}, {-500, 2, 1}, {-500, 3, 1}, {500, 1, 1}, {500, 2, 3}, {500, 3, 4},
            {-1, 1, 0}, {-1, 1000, 999}, {1, 999, 999}, {1, 1000, 1001}, {-300, 10, 7}, {0, 1, 1}, {500, 99997, 149995},
            {-500, 99997, 49998}};
        for (int[] d : due) {
            due("clock(0) at the rate of " + d[0] + " after " + d[1], drifting(d[0], d[1]).clock(0), 3 + d[2]);
        }
        Doorledger late = Ledgers.passTo(Ledgers.fresh(), 99999);
        late.addDoor();
        late.setRate(0, -1);
        late.pass(1);
        due("clock(0), set to 99999 plus 0.999, which is nearly 1", late.clock(0), 99999);
    }

    private void firstLetterThatFits() {
        Doorledger x = Ledgers.fresh();
        x.addKey(2, 10, 20);
        x.addKey(1, 10, 20);
        x.addKey(2, 10, 20);
        x.addKey(1, 10, 20);
        x.addDoor();
        x.addPhone();
        x.addKey(2, 10, 20);
        x.revoke(4);
        x.revoke(0);
        x.revoke(1);
        x.pass(5);
        letters(x, "dede", "by the old list, early");
        due("answer(0, 4), not in the list and revoked", x.answer(0, 4), 'u');
        x.meetCloud(0);
        x.meetDoor(0, 0);
        letters(x, "rrde", "early");
        x.setRate(0, 500);
        x.pass(3);
        due("clock(0)", x.clock(0), 9);
        letters(x, "rrde", "a minute early");
        x.pass(1);
        due("clock(0)", x.clock(0), 11);
        letters(x, "rrdo", "by the fast clock");
        x.meetDoor(0, 0);
        letters(x, "rrde", "when the clock was set back");
        x.pass(1);
        x.setRate(0, 0);
        letters(x, "rrdo", "at the first minute");
        x.pass(9);
        letters(x, "rrdo", "at the last minute");
        x.pass(1);
        letters(x, "rrdl", "at the end");
    }

    private void letters(Doorledger x, String due, String when) {
        for (int key = 0; key < due.length(); key++) {
            due("answer(0, " + key + ") " + when, x.answer(0, key), due.charAt(key));
        }
    }

    private void whatAnAuditKeeps() {
        Doorledger x = Ledgers.withAudits(0);
        x.addDoor();
        x.addKey(1, 0, 1000);
        x.setRate(0, 500);
        x.pass(3);
        x.open(1, 0);
        x.open(0, 1);
        x.open(0, 0);
        x.meetCloud(0);
        x.meetDoor(0, 1);
        x.pass(1);
        x.open(1, 1);
        x.setDoors(0, 2);
        int[] minutes = {3, 4, 4, 4};
        int[] versions = {1, 1, 1, 2};
        for (int audit = 0; audit < 4; audit++) {
            due("letterOf(" + audit + ")", x.letterOf(audit), "ouod".charAt(audit));
            due("letterByList(" + audit + "), by its door and key", x.letterByList(audit), "ouod".charAt(audit));
            due("minuteOf(" + audit + ")", x.minuteOf(audit), minutes[audit]);
            due("versionAt(" + audit + ")", x.versionAt(audit), versions[audit]);
        }
        due("waiting(0)", x.waiting(0), 2);
        due("waiting(1)", x.waiting(1), 1);
        x.meetDoor(1, 1);
        x.meetDoor(1, 0);
        x.pass(1);
        x.meetCloud(1);
        due("delays(), by the times of the tries", x.delays(), 1L + 2L + 2L);
        due("isBreach(0)", x.isBreach(0), false);
        x.meetCloud(0);
        due("isBreach(2), by the door and the key", x.isBreach(2), true);
        due("breachesAt(0)", x.breachesAt(0), 1);
        due("breachesAt(1)", x.breachesAt(1), 0);
    }

    private void firstAndLastAudit() {
        Doorledger x = Ledgers.withAudits(0);
        for (int number = 0; number < Ledgers.AUDITS; number++) {
            int audit = number;
            dueThrow("letterOf(" + audit + ") ahead of it", () -> x.letterOf(audit), ELEMENT);
            x.open(0, 0);
            due("letterOf(" + audit + ")", x.letterOf(audit), 'o');
        }
        dueThrow("open(0, 0), the 61st", () -> x.open(0, 0), STATE);
        dueThrow("letterOf(60)", () -> x.letterOf(60), ELEMENT);
    }

    private void firstAndLastPhone() {
        Doorledger x = Ledgers.fresh();
        for (int number = 0; number < Ledgers.PHONES; number++) {
            int phone = number;
            dueThrow("carried(" + phone + ") ahead of it", () -> x.carried(phone), INDEX);
            due("addPhone()", x.addPhone(), phone);
            due("carried(" + phone + ")", x.carried(phone), 0);
        }
        dueThrow("carried(3)", () -> x.carried(3), INDEX);
        dueThrow("addPhone(), the fourth", x::addPhone, STATE);
        dueThrow("carried(3) after it", () -> x.carried(3), INDEX);
    }

    private void firstListOfAPhone() {
        for (int changes : new int[] {0, 1, 50}) {
            Doorledger x = Ledgers.fresh();
            x.addDoor();
            x.addKey(31, 0, 1);
            for (int version = 2; version <= changes; version++) {
                x.setDoors(0, 31);
            }
            x.addPhone();
            due("versionOn(0), added at version " + x.version(), x.versionOn(0), 0);
            x.meetDoor(0, 0);
            due("versionOf(0), met by a new phone", x.versionOf(0), 0);
        }
    }

    private void phoneAndCloud() {
        for (int audits : new int[] {0, 1, 60}) {
            Doorledger x = Ledgers.withAudits(audits);
            x.meetDoor(0, 0);
            due("meetCloud(1), which carries none", x.meetCloud(1), 0);
            due("carried(0), the other", x.carried(0), audits);
            due("meetCloud(0)", x.meetCloud(0), audits);
            due("carried(0)", x.carried(0), 0);
            for (int audit = 0; audit < audits; audit++) {
                due("hasArrived(" + audit + ")", x.hasArrived(audit), true);
            }
        }
        Doorledger y = Ledgers.fresh();
        y.addPhone();
        y.meetCloud(0);
        due("versionOn(0), the present version is 0", y.versionOn(0), 0);
        y.addKey(31, 0, 1);
        for (int version = 1; version <= 50; version++) {
            due("versionOn(0) ahead of the meeting", y.versionOn(0), version - 1);
            y.meetCloud(0);
            due("versionOn(0), the present version is " + version, y.versionOn(0), version);
            if (version < 50) {
                y.setDoors(0, 31);
            }
        }
    }

    private void phoneAndDoor() {
        Doorledger x = Ledgers.withChanges(2);
        x.addDoor();
        x.addPhone();
        x.addPhone();
        x.addPhone();
        meets(x, 0, 2, "a phone without a list");
        x.meetCloud(0);
        meets(x, 0, 2, "a phone with the same version");
        x.setTimes(0, 5, 1000);
        x.meetCloud(1);
        meets(x, 1, 3, "a phone with one more");
        meets(x, 0, 3, "a phone with one less");
        for (int version = 4; version <= 50; version++) {
            x.setTimes(0, 6, 1000);
        }
        x.meetCloud(2);
        meets(x, 2, 50, "a phone with the last version");
        meets(x, 0, 50, "a phone with a far lesser one");
    }

    /** In any case the clock is set, and what waits is taken. */
    private void meets(Doorledger x, int phone, int version, String what) {
        for (int rate : new int[] {-500, 500}) {
            x.setRate(0, rate);
            x.pass(4);
            x.open(0, 0);
            x.open(0, 0);
            int carried = x.carried(phone);
            int own = x.versionOn(phone);
            due("meetDoor with " + what, x.meetDoor(phone, 0), 2);
            due("versionOf(0) after " + what, x.versionOf(0), version);
            due("versionOn(" + phone + "), which stays, after " + what, x.versionOn(phone), own);
            due("clock(0) after " + what, x.clock(0), x.time());
            due("drifted(0) after " + what, x.drifted(0), 0.0f);
            due("carried(" + phone + ") after " + what, x.carried(phone), carried + 2);
            due("waiting(0) after " + what, x.waiting(0), 0);
            x.pass(1);
            due("drifted(0), the rate stays after " + what, x.drifted(0), rate < 0 ? 0.5f : 1.5f);
        }
    }

    /** Whether the opening at minute 10, by the list ahead of the change, is a breach. */
    private static boolean isBreachWith(int minute, Consumer<Doorledger> change) {
        Doorledger x = Ledgers.withAudits(0);
        if (minute < OPENED) {
            Ledgers.passTo(x, minute);
            change.accept(x);
        }
        Ledgers.passTo(x, OPENED);
        x.open(0, 0);
        if (minute >= OPENED) {
            Ledgers.passTo(x, minute);
            change.accept(x);
        }
        x.meetDoor(0, 0);
        x.meetCloud(0);
        return x.isBreach(0);
    }

    private void breachesOfAMinute() {
        Consumer<Doorledger> good = x -> x.setTimes(0, 0, 1000);
        Consumer<Doorledger> bad = x -> x.setTimes(0, 0, 5);
        for (int minute : new int[] {0, 9, 10, 11, 100000}) {
            boolean isInTime = minute <= OPENED;
            due("revoked at " + minute, isBreachWith(minute, x -> x.revoke(0)), isInTime);
            due("its door taken at " + minute, isBreachWith(minute, x -> x.setDoors(0, 30)), isInTime);
            due("its times moved at " + minute, isBreachWith(minute, x -> x.setTimes(0, 11, 1000)), isInTime);
            due("cut short at " + minute, isBreachWith(minute, x -> x.setTimes(0, 0, 10)), isInTime);
            due("not changed at " + minute, isBreachWith(minute, x -> { }), false);
        }
        due("times of its minute only", isBreachWith(10, x -> x.setTimes(0, 10, 11)), false);
        due("times up to its minute", isBreachWith(10, x -> x.setTimes(0, 9, 10)), true);
        due("times from the next minute", isBreachWith(10, x -> x.setTimes(0, 11, 12)), true);
        due("its door only", isBreachWith(10, x -> x.setDoors(0, 1)), false);
        due("bad, then good in its minute", isBreachWith(10, bad.andThen(good)), false);
        due("good, then bad in its minute", isBreachWith(10, good.andThen(bad)), true);
        due("bad ahead of its minute, good in it", isBreachWith(9, bad.andThen(x -> x.pass(1)).andThen(good)), false);
        due("bad in its minute, good in the next", isBreachWith(10, bad.andThen(x -> x.pass(1)).andThen(good)), true);
        due("another key is revoked", isBreachWith(10, x -> x.revoke(x.addKey(0, 0, 1))), false);
        due("its minute is ahead of the version with the key", openedAheadOfItsKey(), true);
    }

    /** No clock of a door falls behind the version of its list, so this one is set back from inside. */
    private static boolean openedAheadOfItsKey() {
        Doorledger x = Ledgers.passTo(Ledgers.fresh(), OPENED + 1);
        x.addKey(31, 0, 1000);
        x.addDoor();
        x.addPhone();
        Inside.spoil(x, "doors", 0, "setTo", OPENED);
        x.open(0, 0);
        x.meetDoor(0, 0);
        x.meetCloud(0);
        return x.letterOf(0) == 'o' && x.minuteOf(0) == OPENED && x.isBreach(0);
    }

    private void breachesOfALaterMinute() {
        Doorledger x = Ledgers.withAudits(0);
        x.setRate(0, 500);
        x.pass(10);
        due("open(0, 0)", x.open(0, 0), 'o');
        due("minuteOf(0)", x.minuteOf(0), 15);
        x.meetDoor(0, 0);
        x.meetCloud(0);
        due("isBreach(0) by the present list", x.isBreach(0), false);
        x.setTimes(0, 16, 1000);
        due("isBreach(0), bad at 10", x.isBreach(0), true);
        x.pass(4);
        due("isBreach(0), still bad at 14", x.isBreach(0), true);
        x.setTimes(0, 15, 1000);
        due("isBreach(0), good at 14", x.isBreach(0), false);
        x.pass(1);
        x.setTimes(0, 0, 15);
        due("isBreach(0), bad at 15, its minute", x.isBreach(0), true);
        x.setTimes(0, 0, 16);
        due("isBreach(0), good at 15, its minute", x.isBreach(0), false);
        x.pass(1);
        x.revoke(0);
        due("isBreach(0), bad at 16, a minute later", x.isBreach(0), false);
        due("isBreach of a minute behind the end of time", laterThanTheEnd(), true);
    }

    /** The key is good up to the end of time, the clock is at its last minute, and the list is changed at the end. */
    private static boolean laterThanTheEnd() {
        Doorledger x = Ledgers.passTo(Ledgers.fresh(), 99998);
        x.addKey(31, 0, 100000);
        x.addDoor();
        x.addPhone();
        x.setRate(0, 500);
        x.pass(1);
        x.open(0, 0);
        x.meetDoor(0, 0);
        x.meetCloud(0);
        boolean isBreachAhead = x.isBreach(0);
        x.revoke(0);
        return x.letterOf(0) == 'o' && x.minuteOf(0) == 99999 && !isBreachAhead && x.isBreach(0);
    }

    /** Calls that throw in a busy town, by all reasons that there are in it. */
    private static List<Function<Doorledger, Object>> refusedCalls() {
        List<Function<Doorledger, Object>> calls = new ArrayList<>();
        calls.add(x -> x.addKey(32, 0, 1));
        calls.add(x -> x.addKey(31, 1, 1));
        calls.add(x -> x.setTimes(5, 0, 1));
        calls.add(x -> x.setTimes(0, 1, 0));
        calls.add(x -> x.setTimes(4, 0, 1));
        calls.add(x -> x.setDoors(-1, 0));
        calls.add(x -> x.setDoors(0, 32));
        calls.add(x -> x.setDoors(4, 0));
        calls.add(x -> x.revoke(5));
        calls.add(x -> x.revoke(4));
        calls.add(Doorledger::addDoor);
        calls.add(x -> x.setRate(5, 0));
        calls.add(x -> x.setRate(0, 501));
        calls.add(Doorledger::addPhone);
        calls.add(x -> x.pass(0));
        calls.add(x -> x.pass(10001));
        calls.add(x -> x.meetCloud(3));
        calls.add(x -> x.meetDoor(3, 0));
        calls.add(x -> x.meetDoor(2, 5));
        calls.add(x -> x.open(5, 0));
        calls.add(x -> x.open(0, 5));
        calls.add(x -> x.answer(5, 0));
        calls.add(x -> x.answer(0, 5));
        calls.add(x -> x.clock(5));
        calls.add(x -> x.drifted(-1));
        calls.add(x -> x.driftedBits(5));
        calls.add(x -> x.versionOf(-1));
        calls.add(x -> x.versionByReplay(5));
        calls.add(x -> x.versionOn(3));
        calls.add(x -> x.fromIn(5, 0));
        calls.add(x -> x.fromIn(0, 4));
        calls.add(x -> x.waiting(5));
        calls.add(x -> x.carried(3));
        calls.add(x -> x.letterOf(10));
        calls.add(x -> x.letterByList(10));
        calls.add(x -> x.minuteOf(-1));
        calls.add(x -> x.versionAt(10));
        calls.add(x -> x.hasArrived(10));
        calls.add(x -> x.isBreach(10));
        calls.add(x -> x.breachesAt(5));
        return calls;
    }

    private void refusedCallsChangeNothing() {
        for (Function<Doorledger, String> part : Portrait.PARTS) {
            Doorledger x = Ledgers.busyTown();
            for (Function<Doorledger, Object> call : refusedCalls()) {
                due("a refused call", Checks.answerOf(() -> call.apply(x)).startsWith("throws."), true);
            }
            due("the portrait after all of them", part.apply(x), part.apply(Ledgers.busyTown()));
        }
        Doorledger x = Ledgers.fresh();
        dueThrow("meanDelay()", x::meanDelay, ARITHMETIC);
        dueThrow("meanBits()", x::meanBits, ARITHMETIC);
        dueThrow("arrivedShare()", x::arrivedShare, ARITHMETIC);
        due("isSound() after them", x.isSound(), true);
    }

    private void firstListedIsThrown() {
        Doorledger keys = Ledgers.townWithKeys(8);
        dueThrow("addKey(32, 0, 1), 8 keys", () -> keys.addKey(32, 0, 1), ARGUMENT);
        dueThrow("addKey(31, 0, 0), 8 keys", () -> keys.addKey(31, 0, 0), ARGUMENT);
        Doorledger changes = Ledgers.townWithChanges(50);
        dueThrow("addKey(-1, 0, 1), 50 changes", () -> changes.addKey(-1, 0, 1), ARGUMENT);
        dueThrow("setTimes(5, 1, 1), 50 changes", () -> changes.setTimes(5, 1, 1), ELEMENT);
        dueThrow("setTimes(0, 1, 1), 50 changes", () -> changes.setTimes(0, 1, 1), ARGUMENT);
        dueThrow("setTimes(4, 1, 1), 50 changes, revoked", () -> changes.setTimes(4, 1, 1), ARGUMENT);
        dueThrow("setTimes(5, 0, 1), 50 changes", () -> changes.setTimes(5, 0, 1), ELEMENT);
        dueThrow("setDoors(5, 32), 50 changes", () -> changes.setDoors(5, 32), ELEMENT);
        dueThrow("setDoors(0, 32), 50 changes", () -> changes.setDoors(0, 32), ARGUMENT);
        dueThrow("setDoors(4, 32), 50 changes, revoked", () -> changes.setDoors(4, 32), ARGUMENT);
        dueThrow("setDoors(5, 0), 50 changes", () -> changes.setDoors(5, 0), ELEMENT);
        dueThrow("revoke(5), 50 changes", () -> changes.revoke(5), ELEMENT);
        dueThrow("setRate(5, 501)", () -> changes.setRate(5, 501), INDEX);
        dueThrow("answer(5, 5)", () -> changes.answer(5, 5), INDEX);
        dueThrow("fromIn(5, 5)", () -> changes.fromIn(5, 5), INDEX);
        Doorledger audits = Ledgers.townWithAudits(60);
        dueThrow("open(5, 5), 60 audits", () -> audits.open(5, 5), INDEX);
        dueThrow("open(5, 0), 60 audits", () -> audits.open(5, 0), INDEX);
        dueThrow("open(0, 5), 60 audits", () -> audits.open(0, 5), ELEMENT);
    }
}
