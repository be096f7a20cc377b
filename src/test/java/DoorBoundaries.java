/** Promises 7, 8, 15 to 20, 22 and 23: doors, their clocks and their lists. */
final class DoorBoundaries extends Boundaries {
    private static final int[] EDGES_OF_RATE = {-500, -499, -1, 0, 1, 499, 500};

    DoorBoundaries(Checks checks) {
        super(checks);
    }

    @Override
    void all(Sentences s) {
        s.under("Promise 7");
        s.test("Adds a door.", this::addsADoor);
        s.test("Returns the number of the door.", this::numbersOfDoors);
        s.test("Throws `IllegalStateException`", this::sixthDoor);
        setRate(s);
        answer(s);
        clock(s);
        drifted(s);
        versions(s);
        fromIn(s);
        s.under("Promise 23");
        s.test("Returns the number of audits of a door that no phone has taken.", this::waitingUntilTaken);
        s.test("- `door`", () -> eachDoor("waiting", (x, door) -> x.waiting(door), new Object[] {0, 1, 2, 3, 4}));
        s.test("Returns the number of audits.", this::waitingUpToAll);
        s.test("Throws `IndexOutOfBoundsException`", () -> noSuchDoor("waiting", (x, door) -> x.waiting(door)));
    }

    private void setRate(Sentences s) {
        s.under("Promise 8");
        s.test("Sets the rate", this::eachRate);
        s.test("The clock is set", this::clockSetByRate);
        s.test("- `door`", this::rateOfOneDoor);
        s.test("- `thousandths`", this::thousandths);
        s.test("Returns the minute that the clock shows.", this::minuteOfSetRate);
        s.test("Throws `IndexOutOfBoundsException`", this::rateOfNoDoor);
        s.test("Throws `IllegalArgumentException`", this::rateOutOfRange);
    }

    private void answer(Sentences s) {
        s.under("Promise 15");
        s.test("Returns the letter that a door would answer to a key now.", this::answersWithoutAudit);
        s.test("- `door`", this::answerOfEachDoor);
        s.test("- `key`", this::answerToEachKey);
        s.test("Returns the letter.", this::eachLetter);
        s.test("Throws `IndexOutOfBoundsException`", this::answerOfNoDoor);
        s.test("Throws `NoSuchElementException`", () -> noSuchKey("answer", (x, key) -> x.answer(1, key)));
    }

    private void clock(Sentences s) {
        s.under("Promise 16");
        s.test("Returns the minute that the clock of a door shows.", this::clockFromNoughtOn);
        s.test("- `door`", () -> eachDoor("clock", (x, door) -> x.clock(door), new Object[] {150, 160, 170, 180, 190}));
        s.test("Returns the minute.", this::greatestClock);
        s.test("Throws `IndexOutOfBoundsException`", () -> noSuchDoor("clock", (x, door) -> x.clock(door)));
    }

    private void drifted(Sentences s) {
        Object[] due = new Object[Ledgers.DOORS];
        Object[] bits = new Object[Ledgers.DOORS];
        for (int door = 0; door < Ledgers.DOORS; door++) {
            float minutes = 100.0f * (1.0f + 100.0f * door / 1000.0f);
            due[door] = minutes;
            bits[door] = Float.floatToIntBits(minutes);
        }
        s.under("Promise 17");
        s.test("Returns the drifted minutes of a door.", this::driftedFromNoughtOn);
        s.test("- `door`", () -> eachDoor("drifted", (x, door) -> x.drifted(door), due));
        s.test("Returns the drifted minutes.", this::greatestDrift);
        s.test("Throws `IndexOutOfBoundsException`", () -> noSuchDoor("drifted", (x, door) -> x.drifted(door)));
        s.under("Promise 18");
        s.test("Returns the bits of the drifted minutes of a door.", this::bitsOfNought);
        s.test("- `door`", () -> eachDoor("driftedBits", (x, door) -> x.driftedBits(door), bits));
        s.test("Returns the bits, as Float.floatToIntBits gives them.", this::bitsAroundPowers);
        s.test("Throws `IndexOutOfBoundsException`", () -> noSuchDoor("driftedBits", (x, door) -> x.driftedBits(door)));
    }

    private void versions(Sentences s) {
        Object[] due = {1, 2, 3, 4, 5};
        s.under("Promise 19");
        s.test("Returns the version of the list of a door, as it is kept.", this::versionKept);
        s.test("- `door`", () -> eachDoor("versionOf", (x, door) -> x.versionOf(door), due));
        s.test("Returns the version.", () -> versionsFromNoughtToLast((x, door) -> x.versionOf(door)));
        s.test("Throws `IndexOutOfBoundsException`", () -> noSuchDoor("versionOf", (x, door) -> x.versionOf(door)));
        s.under("Promise 20");
        s.test("Returns the same version, found by playing all meetings again.", this::replayOfMeetings);
        s.test("- `door`", () -> eachDoor("versionByReplay", (x, door) -> x.versionByReplay(door), due));
        s.test("Returns the version.", () -> versionsFromNoughtToLast((x, door) -> x.versionByReplay(door)));
        s.test("Throws `IndexOutOfBoundsException`",
            () -> noSuchDoor("versionByReplay", (x, door) -> x.versionByReplay(door)));
    }

    private void fromIn(Sentences s) {
        s.under("Promise 22");
        s.test("Returns the first minute", this::fromByTheDoorsList);
        s.test("- `door`", this::lastKeyOfEachDoor);
        s.test("- `key`", this::fromOfEachKey);
        s.test("Returns the minute.", this::leastAndGreatestFrom);
        s.test("Throws `IndexOutOfBoundsException`", this::fromOfNoDoor);
        s.test("Throws `NoSuchElementException`", this::fromOfNoKey);
    }

    /** A town has five doors, and each differs in all. */
    private void eachDoor(String call, Numbered made, Object[] due) {
        Doorledger x = Ledgers.town();
        for (int door = 0; door < Ledgers.DOORS; door++) {
            due(call + "(" + door + ")", made.apply(x, door), due[door]);
        }
    }

    private static float drift(int minutes, int thousandths) {
        return (float) minutes * (1.0f + ((float) thousandths / 1000.0f));
    }

    /** A new door's clock with the rate, after so many minutes. */
    private static Doorledger running(int thousandths, int minutes) {
        Doorledger x = new Doorledger();
        x.addDoor();
        x.setRate(0, thousandths);
        return Ledgers.passTo(x, minutes);
    }

    private void addsADoor() {
        Doorledger x = Ledgers.fresh();
        dueThrow("clock(0) ahead of it", () -> x.clock(0), INDEX);
        x.addDoor();
        due("clock(0)", x.clock(0), 0);
        due("waiting(0)", x.waiting(0), 0);
        due("breachesAt(0)", x.breachesAt(0), 0);
        dueThrow("clock(1)", () -> x.clock(1), INDEX);
    }

    private void numbersOfDoors() {
        Doorledger x = Ledgers.fresh();
        for (int door = 0; door < Ledgers.DOORS; door++) {
            due("addDoor()", x.addDoor(), door);
        }
    }

    private void sixthDoor() {
        refused("addDoor() where there are 5", Ledgers::busyTown, Doorledger::addDoor, STATE);
        refused("addDoor() where there are 5", Ledgers.again(Ledgers::withDoors, 5), Doorledger::addDoor, STATE);
        due("addDoor() where there are 4", Ledgers.withDoors(4).addDoor(), 4);
    }

    private void eachRate() {
        for (int thousandths = -500; thousandths <= 500; thousandths++) {
            for (int minutes : new int[] {1, 7, 1000}) {
                due("drifted(0) at the rate of " + thousandths + " after " + minutes,
                    running(thousandths, minutes).drifted(0), drift(minutes, thousandths));
            }
        }
    }

    private void clockSetByRate() {
        Doorledger x = running(-500, 1);
        due("drifted(0) ahead of it", x.drifted(0), 0.5f);
        x.setRate(0, -500);
        due("drifted(0) after it", x.drifted(0), 0.0f);
        x.pass(1);
        due("clock(0), half a minute after a half that is gone", x.clock(0), 0);
        x.pass(1);
        due("clock(0), a minute after it", x.clock(0), 1);
        x.setRate(0, 500);
        due("clock(0) in the same minute", x.clock(0), 1);
        x.setRate(0, -500);
        due("clock(0) after another in the same minute", x.clock(0), 1);
        x.pass(2);
        due("clock(0), two minutes at the last rate", x.clock(0), 2);
        Doorledger never = running(500, 0);
        due("drifted(0) with no time passed", never.drifted(0), 0.0f);
        never.pass(1);
        due("drifted(0) a minute after", never.drifted(0), 1.5f);
    }

    private void rateOfOneDoor() {
        for (int set : new int[] {0, 4}) {
            Doorledger x = Ledgers.town();
            x.setRate(set, 500);
            x.pass(100);
            for (int door = 0; door < Ledgers.DOORS; door++) {
                float due = door == set ? 150.0f : drift(200, 100 * door);
                due("drifted(" + door + ") after setRate(" + set + ", 500)", x.drifted(door), due);
            }
        }
    }

    private void thousandths() {
        for (int taken : EDGES_OF_RATE) {
            due("setRate(0, " + taken + ")", running(0, 9).setRate(0, taken), 9);
        }
        for (int bad : new int[] {-501, 501, -1000, 1000, Integer.MIN_VALUE, Integer.MAX_VALUE}) {
            dueThrow("setRate(0, " + bad + ")", () -> running(0, 9).setRate(0, bad), ARGUMENT);
        }
    }

    private void minuteOfSetRate() {
        due("setRate(0, 1) at minute 0", running(0, 0).setRate(0, 1), 0);
        due("setRate(0, 500), half a minute drifted", running(-500, 1).setRate(0, 500), 0);
        due("setRate(0, 500), one drifted", running(-500, 2).setRate(0, 500), 1);
        due("setRate(0, -500), one and a half drifted", running(500, 1).setRate(0, -500), 1);
        due("setRate(0, 0), the greatest minute", running(500, 100000).setRate(0, 0), 150000);
        due("setRate(0, 0), the least at the end", running(-500, 100000).setRate(0, 0), 50000);
        Doorledger twice = running(500, 10);
        twice.setRate(0, 500);
        twice.pass(3);
        due("setRate(0, 0), set to 15 and 4.5 drifted", twice.setRate(0, 0), 19);
    }

    private void rateOfNoDoor() {
        noSuchDoor("setRate", (x, door) -> x.setRate(door, 1));
        for (int door : new int[] {-1, 5}) {
            refused("setRate(" + door + ", 501)", Ledgers::busyTown, x -> x.setRate(door, 501), INDEX);
            refused("setRate(" + door + ", -501)", Ledgers::busyTown, x -> x.setRate(door, -501), INDEX);
        }
    }

    private void rateOutOfRange() {
        for (int bad : new int[] {-501, 501, Integer.MIN_VALUE, Integer.MAX_VALUE}) {
            for (int door : new int[] {0, 4}) {
                refused("setRate(" + door + ", " + bad + ")", Ledgers::busyTown, x -> x.setRate(door, bad), ARGUMENT);
            }
        }
    }

    private void answersWithoutAudit() {
        Doorledger x = Ledgers.withAudits(0);
        due("answer(0, 0)", x.answer(0, 0), 'o');
        due("audits()", x.audits(), 0);
        due("waiting(0)", x.waiting(0), 0);
        Doorledger full = Ledgers.withAudits(60);
        due("answer(0, 0) with 60 audits", full.answer(0, 0), 'o');
        full.pass(999);
        due("answer(0, 0) at the last minute", full.answer(0, 0), 'o');
        full.pass(1);
        due("answer(0, 0) at the end", full.answer(0, 0), 'l');
        due("audits()", full.audits(), 60);
    }

    private void answerOfEachDoor() {
        Doorledger x = Ledgers.town();
        for (int door = 0; door < Ledgers.DOORS; door++) {
            due("answer(" + door + ", " + door + "), the last key that it knows", x.answer(door, door), 'o');
            if (door < 4) {
                due("answer(" + door + ", " + (door + 1) + "), the first that it does not", x.answer(door, door + 1), 'u');
            }
        }
    }

    private void answerToEachKey() {
        Doorledger x = Ledgers.fresh();
        for (int key = 0; key < Ledgers.KEYS; key++) {
            x.addKey(1, key % 3, 3);
        }
        x.addDoor();
        x.addDoor();
        for (int minute = 0; minute < 3; minute++) {
            for (int key = 0; key < Ledgers.KEYS; key++) {
                due("answer(0, " + key + ") at " + minute, x.answer(0, key), minute < key % 3 ? 'e' : 'o');
                due("answer(1, " + key + ") at " + minute, x.answer(1, key), 'd');
            }
            x.pass(1);
        }
        due("answer(0, 7) at 3", x.answer(0, 7), 'l');
    }

    private void eachLetter() {
        Doorledger x = Ledgers.fresh();
        x.addKey(1, 0, 1000);
        x.addKey(1, 10, 11);
        x.addKey(2, 0, 1000);
        x.addKey(1, 0, 1000);
        x.revoke(3);
        x.addDoor();
        x.addKey(1, 0, 1000);
        Ledgers.passTo(x, 9);
        char[] early = {'o', 'e', 'd', 'r', 'u'};
        char[] good = {'o', 'o', 'd', 'r', 'u'};
        char[] late = {'o', 'l', 'd', 'r', 'u'};
        for (char[] due : new char[][] {early, good, late}) {
            for (int key = 0; key < due.length; key++) {
                due("answer(0, " + key + ") at " + x.time(), x.answer(0, key), due[key]);
            }
            x.pass(1);
        }
    }

    private void answerOfNoDoor() {
        noSuchDoor("answer", (x, door) -> x.answer(door, 0));
        for (int door : new int[] {-1, 5}) {
            refused("answer(" + door + ", -1)", Ledgers::busyTown, x -> x.answer(door, -1), INDEX);
            refused("answer(" + door + ", 5)", Ledgers::busyTown, x -> x.answer(door, 5), INDEX);
        }
    }

    private void clockFromNoughtOn() {
        due("clock(0) at 0", running(500, 0).clock(0), 0);
        due("clock(0) at 1", running(500, 1).clock(0), 1);
        due("clock(0) at 2", running(500, 2).clock(0), 3);
        due("clock(0) at 1, slow", running(-500, 1).clock(0), 0);
        due("clock(0) at 2, slow", running(-500, 2).clock(0), 1);
        due("clock(0) at 1, rate 1.0f", running(0, 1).clock(0), 1);
    }

    private void greatestClock() {
        due("clock(0) at the end, rate 1.0f", running(0, 100000).clock(0), 100000);
        due("clock(0) at the end, fast", running(500, 100000).clock(0), 150000);
        due("clock(0) a minute ahead of the end, fast", running(500, 99999).clock(0), 149998);
        due("clock(0) at the end, slow", running(-500, 100000).clock(0), 50000);
        Doorledger late = Ledgers.passTo(Ledgers.fresh(), 100000);
        late.addDoor();
        due("clock(0) of a door added at the end", late.clock(0), 100000);
    }

    private void driftedFromNoughtOn() {
        for (int thousandths : EDGES_OF_RATE) {
            for (int minutes = 0; minutes <= 3; minutes++) {
                due("drifted(0) at the rate of " + thousandths + " after " + minutes,
                    running(thousandths, minutes).drifted(0), drift(minutes, thousandths));
            }
        }
        Doorledger x = running(500, 9);
        x.addPhone();
        x.meetDoor(0, 0);
        due("drifted(0) after a meeting", x.drifted(0), 0.0f);
    }

    private void greatestDrift() {
        due("drifted(0), the greatest", running(500, 100000).drifted(0), 150000.0f);
        due("drifted(0), ahead of the greatest", running(500, 99999).drifted(0), 149998.5f);
        due("drifted(0), the least at the end", running(-500, 100000).drifted(0), 50000.0f);
        due("drifted(0), the least above 0", running(-500, 1).drifted(0), 0.5f);
    }

    private void bitsOfNought() {
        due("driftedBits(0) of 0", running(500, 0).driftedBits(0), 0);
        due("driftedBits(0) of the least above 0", running(-500, 1).driftedBits(0), 0x3F000000);
        due("driftedBits(0) of 1", running(0, 1).driftedBits(0), 0x3F800000);
        due("driftedBits(0) of the greatest", running(500, 100000).driftedBits(0), 0x48127C00);
    }

    private void bitsAroundPowers() {
        for (int thousandths : new int[] {-500, -499, -333, -1, 0, 1, 7, 333, 499, 500}) {
            for (int power = 1; power <= 65536; power *= 2) {
                for (int minutes = power - 1; minutes <= power + 1; minutes++) {
                    due("driftedBits(0) at the rate of " + thousandths + " after " + minutes,
                        running(thousandths, minutes).driftedBits(0), Float.floatToIntBits(drift(minutes, thousandths)));
                }
            }
        }
    }

    private void versionKept() {
        Doorledger x = Ledgers.withChanges(2);
        x.addDoor();
        x.addPhone();
        x.addPhone();
        x.meetCloud(0);
        x.setDoors(0, 1);
        x.meetCloud(1);
        due("versionOf(0) when the cloud has the next one", x.versionOf(0), 2);
        x.meetDoor(0, 0);
        due("versionOf(0) after a phone with the same", x.versionOf(0), 2);
        x.meetDoor(1, 0);
        due("versionOf(0) after a phone with one more", x.versionOf(0), 3);
        x.meetDoor(0, 0);
        due("versionOf(0) after a phone with one less", x.versionOf(0), 3);
    }

    private void versionsFromNoughtToLast(Numbered made) {
        for (int changes : new int[] {0, 1, 49, 50}) {
            Doorledger x = Ledgers.withChanges(changes);
            x.addDoor();
            due("of a door added at version " + changes, made.apply(x, 0), changes);
        }
        Doorledger brought = Ledgers.fresh();
        brought.addDoor();
        brought.addPhone();
        brought.addKey(31, 0, 1);
        for (int version = 1; version <= 50; version++) {
            due("of a door that version " + version + " has not reached", made.apply(brought, 0), version - 1);
            brought.meetCloud(0);
            brought.meetDoor(0, 0);
            due("of a door to which " + version + " was brought", made.apply(brought, 0), version);
            if (version < 50) {
                brought.setDoors(0, 31);
            }
        }
    }

    private void replayOfMeetings() {
        Doorledger x = Ledgers.withChanges(1);
        x.addDoor();
        x.addPhone();
        x.addPhone();
        due("versionByReplay(0) ahead of any meeting", x.versionByReplay(0), 1);
        x.meetDoor(0, 0);
        due("versionByReplay(0) after a phone without a list", x.versionByReplay(0), 1);
        x.setDoors(0, 1);
        x.meetCloud(1);
        due("versionByReplay(0) when a phone has met the cloud only", x.versionByReplay(0), 1);
        x.setDoors(0, 2);
        x.meetDoor(1, 0);
        due("versionByReplay(0), the version of the cloud at its meeting", x.versionByReplay(0), 2);
        x.meetCloud(1);
        due("versionByReplay(0), when the phone meets the cloud afterwards", x.versionByReplay(0), 2);
        x.meetDoor(0, 0);
        due("versionByReplay(0), after the other phone", x.versionByReplay(0), 2);
        x.addDoor();
        x.meetDoor(1, 1);
        due("versionByReplay(0), when another door is met", x.versionByReplay(0), 2);
        due("versionByReplay(1), the same as it had", x.versionByReplay(1), 3);
        x.meetDoor(1, 0);
        due("versionByReplay(0), met at last", x.versionByReplay(0), 3);
        due("versionOf(0)", x.versionOf(0), 3);
        replayOfNoList();
    }

    /** A phone has version 0 at the beginning of each replay, whatever it took afterwards. */
    private void replayOfNoList() {
        Doorledger x = Ledgers.fresh();
        x.addDoor();
        x.addPhone();
        x.addKey(31, 0, 1);
        x.setDoors(0, 0);
        x.meetDoor(0, 0);
        x.meetCloud(0);
        for (int time = 1; time <= 3; time++) {
            due("versionByReplay(0), asked " + time + " times", x.versionByReplay(0), 0);
        }
        due("isSound()", x.isSound(), true);
        Inside.spoil(x, "doors", 0, "version", 1);
        due("versionByReplay(0), when what is kept was spoilt", x.versionByReplay(0), 0);
    }

    private void fromByTheDoorsList() {
        Doorledger x = Ledgers.withChanges(1);
        x.addDoor();
        x.addPhone();
        for (int from = 2; from <= 50; from++) {
            x.setTimes(0, from, 1000);
            due("fromIn(0, 0) when the cloud has " + from, x.fromIn(0, 0), from - 1);
            x.meetCloud(0);
            x.meetDoor(0, 0);
            due("fromIn(0, 0) when it was brought", x.fromIn(0, 0), from);
        }
    }

    private void lastKeyOfEachDoor() {
        Doorledger x = Ledgers.town();
        for (int number = 0; number < Ledgers.DOORS; number++) {
            int door = number;
            due("fromIn(" + door + ", " + door + ")", x.fromIn(door, door), 10 * door);
            dueThrow("fromIn(" + door + ", " + (door + 1) + ")", () -> x.fromIn(door, door + 1), ELEMENT);
        }
    }

    private void fromOfEachKey() {
        Doorledger x = Ledgers.withKeys(8);
        for (int key = 0; key < Ledgers.KEYS; key++) {
            due("fromIn(1, " + key + ")", x.fromIn(1, key), key);
        }
    }

    private void leastAndGreatestFrom() {
        Doorledger x = Ledgers.fresh();
        x.addKey(31, 0, 100000);
        x.addKey(0, 99999, 100000);
        x.revoke(1);
        x.addDoor();
        due("fromIn(0, 0), the least", x.fromIn(0, 0), 0);
        due("fromIn(0, 1), the greatest, of a revoked key", x.fromIn(0, 1), 99999);
    }

    private void fromOfNoDoor() {
        noSuchDoor("fromIn", (x, door) -> x.fromIn(door, 0));
        for (int door : new int[] {-1, 5}) {
            refused("fromIn(" + door + ", -1)", Ledgers::busyTown, x -> x.fromIn(door, -1), INDEX);
            refused("fromIn(" + door + ", 5)", Ledgers::busyTown, x -> x.fromIn(door, 5), INDEX);
        }
    }

    private void fromOfNoKey() {
        noSuchKey("fromIn", (x, key) -> x.fromIn(1, key));
        refused("fromIn(0, 1), in the cloud's list only", Ledgers::busyTown, x -> x.fromIn(0, 1), ELEMENT);
        refused("fromIn(3, 4), in the cloud's list only", Ledgers::busyTown, x -> x.fromIn(3, 4), ELEMENT);
        Doorledger empty = Ledgers.fresh();
        empty.addDoor();
        dueThrow("fromIn(0, 0) without keys", () -> empty.fromIn(0, 0), ELEMENT);
        empty.addKey(31, 0, 1);
        dueThrow("fromIn(0, 0) by version 0", () -> empty.fromIn(0, 0), ELEMENT);
    }

    private void waitingUntilTaken() {
        Doorledger x = Ledgers.withAudits(0);
        due("waiting(0) at first", x.waiting(0), 0);
        x.open(0, 0);
        due("waiting(0) after one", x.waiting(0), 1);
        x.meetDoor(0, 0);
        due("waiting(0) when it is carried", x.waiting(0), 0);
        x.open(0, 0);
        x.meetCloud(0);
        due("waiting(0) when the first has arrived", x.waiting(0), 1);
        x.meetDoor(1, 0);
        due("waiting(0) when the other is carried", x.waiting(0), 0);
    }

    private void waitingUpToAll() {
        for (int audits : new int[] {0, 1, 59, 60}) {
            Doorledger x = Ledgers.withAudits(audits);
            due("waiting(0) of " + audits, x.waiting(0), audits);
            x.meetDoor(1, 0);
            due("waiting(0) after a meeting", x.waiting(0), 0);
        }
    }
}
