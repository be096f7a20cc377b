/** Promises 9 to 13, 21 and 24: phones, what they meet and carry, and the time. */
final class PhoneBoundaries extends Boundaries {
    PhoneBoundaries(Checks checks) {
        super(checks);
    }

    @Override
    void all(Sentences s) {
        s.under("Promise 9");
        s.test("Adds a phone.", this::addsAPhone);
        s.test("Returns the number of the phone.", this::numbersOfPhones);
        s.test("Throws `IllegalStateException`", this::fourthPhone);
        time(s);
        meetCloud(s);
        meetDoor(s);
        s.under("Promise 21");
        s.test("Returns the version of the list of a phone.", this::versionOfANewPhone);
        s.test("- `phone`", this::versionOnEachPhone);
        s.test("Returns the version.", this::versionsUpToTheLast);
        s.test("Throws `IndexOutOfBoundsException`", () -> noSuchPhone("versionOn", (x, phone) -> x.versionOn(phone)));
        s.under("Promise 24");
        s.test("Returns the number of audits that a phone carries.", this::carriedUntilTheCloud);
        s.test("- `phone`", this::carriedByEachPhone);
        s.test("Returns the number of audits.", this::carriedUpToAll);
        s.test("Throws `IndexOutOfBoundsException`", () -> noSuchPhone("carried", (x, phone) -> x.carried(phone)));
    }

    private void time(Sentences s) {
        s.under("Promise 10");
        s.test("Lets time pass.", this::passesForAll);
        s.test("- `minutes`", this::minutesOfPass);
        s.test("Returns the time.", this::timesOfPass);
        s.test("Throws `IllegalArgumentException`", this::passRefused);
        s.under("Promise 11");
        s.test("Returns the time.", this::timeFromNoughtToTheEnd);
    }

    private void meetCloud(Sentences s) {
        s.under("Promise 12");
        s.test("Lets a phone meet the cloud.", this::meetsTheCloud);
        s.test("- `phone`", this::eachPhoneMeetsTheCloud);
        s.test("Returns the number of audits that arrive.", this::arriving);
        s.test("Throws `IndexOutOfBoundsException`", () -> noSuchPhone("meetCloud", (x, phone) -> x.meetCloud(phone)));
    }

    private void meetDoor(Sentences s) {
        s.under("Promise 13");
        s.test("Lets a phone meet a door.", this::meetsADoor);
        s.test("- `phone`", this::eachPhoneMeetsADoor);
        s.test("- `door`", this::eachDoorIsMet);
        s.test("Returns the number of audits that the phone takes.", this::taken);
        s.test("Throws `IndexOutOfBoundsException`", this::meetDoorOfNone);
    }

    /** A town whose phone p carries p audits. */
    private static Doorledger carrying() {
        Doorledger x = Ledgers.town();
        x.meetDoor(1, 1);
        x.meetDoor(2, 2);
        return x;
    }

    private void addsAPhone() {
        Doorledger x = Ledgers.fresh();
        dueThrow("versionOn(0) ahead of it", () -> x.versionOn(0), INDEX);
        x.addPhone();
        due("versionOn(0)", x.versionOn(0), 0);
        due("carried(0)", x.carried(0), 0);
        dueThrow("versionOn(1)", () -> x.versionOn(1), INDEX);
    }

    private void numbersOfPhones() {
        Doorledger x = Ledgers.fresh();
        for (int phone = 0; phone < Ledgers.PHONES; phone++) {
            due("addPhone()", x.addPhone(), phone);
        }
    }

    private void fourthPhone() {
        refused("addPhone() where there are 3", Ledgers::busyTown, Doorledger::addPhone, STATE);
        refused("addPhone() where there are 3", Ledgers.again(Ledgers::withPhones, 3), Doorledger::addPhone, STATE);
        due("addPhone() where there are 2", Ledgers.withPhones(2).addPhone(), 2);
    }

    private void passesForAll() {
        Doorledger x = Ledgers.town();
        x.pass(1);
        due("time()", x.time(), 151);
        for (int door = 0; door < Ledgers.DOORS; door++) {
            due("drifted(" + door + ")", x.drifted(door), 101.0f * (1.0f + 100.0f * door / 1000.0f));
        }
        due("version()", x.version(), Ledgers.TOWN_VERSION);
        due("audits()", x.audits(), Ledgers.TOWN_AUDITS);
    }

    private void minutesOfPass() {
        for (int minutes : new int[] {1, 2, 9999, 10000}) {
            due("pass(" + minutes + ")", Ledgers.fresh().pass(minutes), minutes);
        }
        for (int minutes : new int[] {0, -1, 10001, Integer.MIN_VALUE, Integer.MAX_VALUE}) {
            dueThrow("pass(" + minutes + ")", () -> Ledgers.fresh().pass(minutes), ARGUMENT);
        }
    }

    private void timesOfPass() {
        Doorledger x = Ledgers.fresh();
        due("pass(1)", x.pass(1), 1);
        due("pass(10000)", x.pass(10000), 10001);
        Ledgers.passTo(x, 99998);
        due("pass(1) at 99998", x.pass(1), 99999);
        due("pass(1) at 99999", x.pass(1), 100000);
        due("pass(10000) at 90000", Ledgers.townAt(90000).pass(10000), 100000);
    }

    private void passRefused() {
        for (int minutes : new int[] {0, -1, 10001, 100001, Integer.MIN_VALUE, Integer.MAX_VALUE}) {
            refused("pass(" + minutes + ")", Ledgers::busyTown, x -> x.pass(minutes), ARGUMENT);
            refused("pass(" + minutes + ") at the end", Ledgers.again(Ledgers::townAt, 100000), x -> x.pass(minutes), ARGUMENT);
        }
        refused("pass(1) at the end", Ledgers.again(Ledgers::townAt, 100000), x -> x.pass(1), ARGUMENT);
        refused("pass(2) at 99999", Ledgers.again(Ledgers::townAt, 99999), x -> x.pass(2), ARGUMENT);
        refused("pass(10000) at 90001", Ledgers.again(Ledgers::townAt, 90001), x -> x.pass(10000), ARGUMENT);
        due("pass(9999) at 90001", Ledgers.townAt(90001).pass(9999), 100000);
    }

    private void timeFromNoughtToTheEnd() {
        Doorledger x = Ledgers.fresh();
        due("time() at first", x.time(), 0);
        x.addKey(0, 0, 1);
        x.addDoor();
        due("time() when none has passed", x.time(), 0);
        Ledgers.passTo(x, 100000);
        due("time() at the end", x.time(), 100000);
        dueThrow("pass(1)", () -> x.pass(1), ARGUMENT);
        due("time() after a refused call", x.time(), 100000);
    }

    private void meetsTheCloud() {
        Doorledger x = Ledgers.fresh();
        x.addPhone();
        due("meetCloud(0) with nothing there", x.meetCloud(0), 0);
        due("versionOn(0), version 0", x.versionOn(0), 0);
        x.addKey(31, 0, 1);
        due("versionOn(0) ahead of the meeting", x.versionOn(0), 0);
        due("meetCloud(0)", x.meetCloud(0), 0);
        due("versionOn(0)", x.versionOn(0), 1);
    }

    private void eachPhoneMeetsTheCloud() {
        for (int met = 0; met < Ledgers.PHONES; met++) {
            Doorledger x = carrying();
            x.setDoors(3, 0);
            due("meetCloud(" + met + ")", x.meetCloud(met), met);
            int[] versions = {0, 5, 6};
            for (int phone = 0; phone < Ledgers.PHONES; phone++) {
                due("versionOn(" + phone + ") after meetCloud(" + met + ")", x.versionOn(phone), phone == met ? 7 : versions[phone]);
                due("carried(" + phone + ") after meetCloud(" + met + ")", x.carried(phone), phone == met ? 0 : phone);
            }
            for (int audit = 0; audit < Ledgers.TOWN_AUDITS; audit++) {
                boolean arrived = audit == 0 && met == 1 || (audit == 1 || audit == 2) && met == 2;
                due("hasArrived(" + audit + ") after meetCloud(" + met + ")", x.hasArrived(audit), arrived);
            }
        }
    }

    private void arriving() {
        for (int audits : new int[] {0, 1, 59, 60}) {
            Doorledger x = Ledgers.withAudits(audits);
            due("meetCloud(0), none is carried of " + audits, x.meetCloud(0), 0);
            x.meetDoor(0, 0);
            due("meetCloud(1), the other phone carries " + audits, x.meetCloud(1), 0);
            due("meetCloud(0), all are carried", x.meetCloud(0), audits);
            due("meetCloud(0), all have arrived", x.meetCloud(0), 0);
        }
    }

    private void meetsADoor() {
        Doorledger x = Ledgers.fresh();
        x.addPhone();
        x.addDoor();
        due("meetDoor(0, 0) with nothing there", x.meetDoor(0, 0), 0);
        due("versionOf(0)", x.versionOf(0), 0);
        due("clock(0)", x.clock(0), 0);
        due("carried(0)", x.carried(0), 0);
    }

    private void eachPhoneMeetsADoor() {
        int[] versions = {5, 5, 6};
        for (int met = 0; met < Ledgers.PHONES; met++) {
            Doorledger x = Ledgers.town();
            due("meetDoor(" + met + ", 4)", x.meetDoor(met, 4), 4);
            due("versionOf(4) after phone " + met, x.versionOf(4), versions[met]);
            for (int phone = 0; phone < Ledgers.PHONES; phone++) {
                due("carried(" + phone + ") after phone " + met, x.carried(phone), phone == met ? 4 : 0);
            }
        }
    }

    private void eachDoorIsMet() {
        for (int met = 0; met < Ledgers.DOORS; met++) {
            Doorledger x = Ledgers.town();
            due("meetDoor(1, " + met + ")", x.meetDoor(1, met), met);
            for (int door = 0; door < Ledgers.DOORS; door++) {
                due("waiting(" + door + ") after door " + met, x.waiting(door), door == met ? 0 : door);
                due("versionOf(" + door + ") after door " + met, x.versionOf(door), door == met ? 5 : door + 1);
                due("clock(" + door + ") after door " + met, x.clock(door), door == met ? 150 : 150 + 10 * door);
            }
        }
    }

    private void taken() {
        for (int audits : new int[] {0, 1, 59, 60}) {
            Doorledger x = Ledgers.withAudits(audits);
            due("meetDoor(0, 0) of " + audits, x.meetDoor(0, 0), audits);
            due("meetDoor(0, 0) again", x.meetDoor(0, 0), 0);
            due("meetDoor(1, 0), the other phone has them", x.meetDoor(1, 0), 0);
            x.meetCloud(0);
            due("meetDoor(1, 0), all have arrived", x.meetDoor(1, 0), 0);
        }
    }

    private void meetDoorOfNone() {
        noSuchPhone("meetDoor with phone", (x, phone) -> x.meetDoor(phone, 1));
        noSuchDoor("meetDoor with door", (x, door) -> x.meetDoor(0, door));
        for (int phone : new int[] {-1, 3}) {
            refused("meetDoor(" + phone + ", -1)", Ledgers::busyTown, x -> x.meetDoor(phone, -1), INDEX);
            refused("meetDoor(" + phone + ", 5)", Ledgers::busyTown, x -> x.meetDoor(phone, 5), INDEX);
            refused("meetDoor(" + phone + ", 4)", Ledgers::busyTown, x -> x.meetDoor(phone, 4), INDEX);
        }
        refused("meetDoor(2, 5)", Ledgers::busyTown, x -> x.meetDoor(2, 5), INDEX);
        refused("meetDoor(0, -1)", Ledgers::busyTown, x -> x.meetDoor(0, -1), INDEX);
    }

    private void versionOfANewPhone() {
        for (int changes : new int[] {0, 1, 50}) {
            Doorledger x = Ledgers.withChanges(changes);
            x.addPhone();
            due("versionOn(0) of a phone added at version " + changes, x.versionOn(0), 0);
        }
    }

    private void versionOnEachPhone() {
        Doorledger x = Ledgers.town();
        due("versionOn(0)", x.versionOn(0), 0);
        due("versionOn(1)", x.versionOn(1), 5);
        due("versionOn(2)", x.versionOn(2), 6);
    }

    private void versionsUpToTheLast() {
        Doorledger x = Ledgers.withChanges(1);
        x.addPhone();
        x.addDoor();
        for (int version = 1; version <= 50; version++) {
            x.meetCloud(0);
            x.meetDoor(0, 0);
            due("versionOn(0) when it met the cloud at " + version, x.versionOn(0), version);
            if (version < 50) {
                x.setDoors(0, 31);
                due("versionOn(0) when the cloud has the next", x.versionOn(0), version);
            }
        }
    }

    private void carriedUntilTheCloud() {
        Doorledger x = Ledgers.withAudits(1);
        due("carried(0) ahead of a meeting", x.carried(0), 0);
        x.meetDoor(0, 0);
        due("carried(0) after a meeting", x.carried(0), 1);
        x.open(0, 0);
        due("carried(0), the next one waits", x.carried(0), 1);
        x.meetDoor(0, 0);
        due("carried(0) after another meeting", x.carried(0), 2);
        x.meetCloud(0);
        due("carried(0) after the cloud", x.carried(0), 0);
    }

    private void carriedByEachPhone() {
        Doorledger x = carrying();
        for (int phone = 0; phone < Ledgers.PHONES; phone++) {
            due("carried(" + phone + ")", x.carried(phone), phone);
        }
    }

    private void carriedUpToAll() {
        for (int audits : new int[] {0, 1, 59, 60}) {
            Doorledger x = Ledgers.withAudits(audits);
            x.meetDoor(1, 0);
            due("carried(1) of " + audits, x.carried(1), audits);
            due("carried(0) of " + audits, x.carried(0), 0);
            x.meetCloud(1);
            due("carried(1) after the cloud", x.carried(1), 0);
        }
    }
}
