/** Promises 14 and 25 to 30: tries, and what is kept of them. */
final class AuditBoundaries extends Boundaries {
    AuditBoundaries(Checks checks) {
        super(checks);
    }

    @Override
    void all(Sentences s) {
        s.under("Promise 14");
        s.test("Tries a key at a door.", this::triesAKey);
        s.test("- `door`", this::eachDoorIsTried);
        s.test("- `key`", this::eachKeyIsTried);
        s.test("Returns the letter.", this::eachLetter);
        s.test("Throws `IndexOutOfBoundsException`", this::openOfNoDoor);
        s.test("Throws `NoSuchElementException`", this::openOfNoKey);
        s.test("Throws `IllegalStateException`", this::sixtyFirstAudit);
        s.under("Promise 25");
        s.test("Returns the number of audits.", this::auditsUpToAll);
        letters(s);
        s.under("Promise 28");
        s.test("Returns the minute that the clock showed at an audit.", this::minuteOfTheTry);
        s.test("- `audit`", () -> eachAudit("minuteOf", (x, audit) -> x.minuteOf(audit), audit -> audit + 1));
        s.test("Returns the minute.", this::leastAndGreatestMinute);
        s.test("Throws `NoSuchElementException`", () -> noSuchAudit("minuteOf", (x, audit) -> x.minuteOf(audit)));
        s.under("Promise 29");
        s.test("Returns the version of the list by which an audit was answered.", this::versionOfTheTry);
        s.test("- `audit`", () -> eachAudit("versionAt", (x, audit) -> x.versionAt(audit), audit -> 1 + audit % 2));
        s.test("Returns the version.", this::leastAndGreatestVersion);
        s.test("Throws `NoSuchElementException`", () -> noSuchAudit("versionAt", (x, audit) -> x.versionAt(audit)));
        s.under("Promise 30");
        s.test("Returns whether an audit has arrived.", this::arrivesAtTheCloud);
        s.test("- `audit`", () -> eachAudit("hasArrived", (x, audit) -> x.hasArrived(audit), audit -> audit % 2 == 0));
        s.test("Returns whether it has.", this::oneArrivesOrAll);
        s.test("Throws `NoSuchElementException`", () -> noSuchAudit("hasArrived", (x, audit) -> x.hasArrived(audit)));
    }

    private void letters(Sentences s) {
        s.under("Promise 26");
        s.test("Returns the letter of an audit.", this::letterStays);
        s.test("- `audit`", () -> eachAudit("letterOf", (x, audit) -> x.letterOf(audit), audit -> "ooud".charAt(audit % 4)));
        s.test("Returns the letter.", () -> lettersKept((x, audit) -> x.letterOf(audit)));
        s.test("Throws `NoSuchElementException`", () -> noSuchAudit("letterOf", (x, audit) -> x.letterOf(audit)));
        s.under("Promise 27");
        s.test("Returns the letter of an audit, found again", this::letterFoundAgain);
        s.test("- `audit`",
            () -> eachAudit("letterByList", (x, audit) -> x.letterByList(audit), audit -> "ooud".charAt(audit % 4)));
        s.test("Returns the letter.", () -> lettersKept((x, audit) -> x.letterByList(audit)));
        s.test("Throws `NoSuchElementException`", () -> noSuchAudit("letterByList", (x, audit) -> x.letterByList(audit)));
    }

    private interface Due {
        Object of(int audit);
    }

    /**
     * 60 audits, of which audit a is made at minute a + 1 at door a % 2: by version 1, with the letters o and u, or by
     * version 2, with o and d. Those of door 0 have arrived.
     */
    static Doorledger diary() {
        Doorledger x = new Doorledger();
        x.addKey(31, 0, 1000);
        x.addDoor();
        x.addKey(0, 0, 1000);
        x.addDoor();
        x.addPhone();
        for (int audit = 0; audit < Ledgers.AUDITS; audit++) {
            x.pass(1);
            x.open(audit % 2, audit / 2 % 2);
        }
        x.meetDoor(0, 0);
        x.meetCloud(0);
        return x;
    }

    private void eachAudit(String call, Numbered made, Due due) {
        Doorledger x = diary();
        for (int audit = 0; audit < Ledgers.AUDITS; audit++) {
            due(call + "(" + audit + ")", made.apply(x, audit), due.of(audit));
        }
    }

    /** Audits 0 to 4 have the letters r, d, e, o and l, and u is that of audit 5; all are of minute 10. */
    private static Doorledger sixLetters() {
        Doorledger x = new Doorledger();
        x.addKey(1, 0, 1000);
        x.revoke(0);
        x.addKey(2, 0, 1000);
        x.addKey(1, 11, 12);
        x.addKey(1, 10, 11);
        x.addKey(1, 9, 10);
        x.addDoor();
        x.addPhone();
        x.addKey(1, 0, 1000);
        x.pass(10);
        return x;
    }

    private void triesAKey() {
        Doorledger x = Ledgers.withAudits(0);
        due("open(0, 0)", x.open(0, 0), 'o');
        due("audits()", x.audits(), 1);
        due("waiting(0)", x.waiting(0), 1);
        due("letterOf(0)", x.letterOf(0), 'o');
        due("open(0, 0) again", x.open(0, 0), 'o');
        due("audits() then", x.audits(), 2);
    }

    private void eachDoorIsTried() {
        for (int tried = 0; tried < Ledgers.DOORS; tried++) {
            Doorledger x = Ledgers.town();
            due("open(" + tried + ", " + tried + ")", x.open(tried, tried), 'o');
            due("versionAt(10)", x.versionAt(10), tried + 1);
            due("minuteOf(10)", x.minuteOf(10), 150 + 10 * tried);
            for (int door = 0; door < Ledgers.DOORS; door++) {
                due("waiting(" + door + ") after door " + tried, x.waiting(door), door == tried ? door + 1 : door);
            }
        }
    }

    private void eachKeyIsTried() {
        Doorledger x = Ledgers.fresh();
        for (int key = 0; key < Ledgers.KEYS; key++) {
            x.addKey(key == 0 || key == 7 ? 1 : 2, 0, 1000);
        }
        x.addDoor();
        x.addDoor();
        for (int key = 0; key < Ledgers.KEYS; key++) {
            boolean isOuter = key == 0 || key == 7;
            due("open(0, " + key + ")", x.open(0, key), isOuter ? 'o' : 'd');
            due("open(1, " + key + ")", x.open(1, key), isOuter ? 'd' : 'o');
        }
    }

    private void eachLetter() {
        Doorledger x = sixLetters();
        for (int key = 0; key < 6; key++) {
            due("open(0, " + key + ")", x.open(0, key), "rdeolu".charAt(key));
        }
        due("audits()", x.audits(), 6);
    }

    private void openOfNoDoor() {
        noSuchDoor("open", (x, door) -> x.open(door, 0));
        for (int door : new int[] {-1, 5}) {
            refused("open(" + door + ", 5)", Ledgers::busyTown, x -> x.open(door, 5), INDEX);
            refused("open(" + door + ", 0), 60 audits", Ledgers.again(Ledgers::townWithAudits, 60), x -> x.open(door, 0), INDEX);
            refused("open(" + door + ", -1), 60 audits", Ledgers.again(Ledgers::townWithAudits, 60), x -> x.open(door, -1), INDEX);
        }
    }

    private void openOfNoKey() {
        noSuchKey("open", (x, key) -> x.open(1, key));
        for (int key : new int[] {-1, 5}) {
            refused("open(0, " + key + ")", Ledgers::busyTown, x -> x.open(0, key), ELEMENT);
            refused("open(0, " + key + "), 60 audits", Ledgers.again(Ledgers::townWithAudits, 60), x -> x.open(0, key), ELEMENT);
        }
        due("open(0, 4), a key that the door's list does not have", Ledgers.busyTown().open(0, 4), 'u');
    }

    private void sixtyFirstAudit() {
        refused("open(0, 0), 60 audits", Ledgers.again(Ledgers::townWithAudits, 60), x -> x.open(0, 0), STATE);
        refused("open(4, 4), 60 audits", Ledgers.again(Ledgers::townWithAudits, 60), x -> x.open(4, 4), STATE);
        Doorledger arrived = diary();
        dueThrow("open(0, 0) when audits have arrived", () -> arrived.open(0, 0), STATE);
        due("open(0, 0), 59 audits", Ledgers.townWithAudits(59).open(0, 0), 'o');
        due("open(0, 4), 59 audits", Ledgers.townWithAudits(59).open(0, 4), 'u');
    }

    private void auditsUpToAll() {
        Doorledger x = Ledgers.withAudits(0);
        due("audits() at first", x.audits(), 0);
        for (int audits = 1; audits <= Ledgers.AUDITS; audits++) {
            x.open(0, 0);
            due("audits()", x.audits(), audits);
        }
        dueThrow("open(0, 0)", () -> x.open(0, 0), STATE);
        due("audits() after a refused try", x.audits(), 60);
        x.meetDoor(0, 0);
        x.meetCloud(0);
        due("audits() when all have arrived", x.audits(), 60);
    }

    private void letterStays() {
        Doorledger x = Ledgers.withAudits(1);
        due("letterOf(0)", x.letterOf(0), 'o');
        x.revoke(0);
        x.meetCloud(0);
        x.meetDoor(0, 0);
        x.open(0, 0);
        Ledgers.passTo(x, 5000);
        due("letterOf(0), revoked and late by now", x.letterOf(0), 'o');
        due("letterOf(1)", x.letterOf(1), 'r');
    }

    private void lettersKept(Numbered made) {
        Doorledger x = sixLetters();
        for (int key = 0; key < 6; key++) {
            x.open(0, key);
        }
        x.setTimes(2, 0, 1);
        x.setTimes(3, 99999, 100000);
        x.setDoors(1, 31);
        x.meetCloud(0);
        x.meetDoor(0, 0);
        for (int audit = 0; audit < 6; audit++) {
            due("of audit " + audit, made.apply(x, audit), "rdeolu".charAt(audit));
        }
    }

    private void letterFoundAgain() {
        Doorledger x = Ledgers.withAudits(0);
        x.setRate(0, 500);
        x.pass(666);
        x.open(0, 0);
        x.pass(1);
        x.open(0, 0);
        due("minuteOf(0), the last of the times", x.minuteOf(0), 999);
        due("minuteOf(1), their end", x.minuteOf(1), 1000);
        x.setTimes(0, 0, 5);
        x.meetCloud(0);
        x.meetDoor(0, 0);
        due("letterByList(0) by the list and the clock then", x.letterByList(0), 'o');
        due("letterByList(1) by the list and the clock then", x.letterByList(1), 'l');
        due("answer(0, 0) by the list and the clock now", x.answer(0, 0), 'l');
    }

    private void minuteOfTheTry() {
        Doorledger x = Ledgers.withAudits(0);
        x.setRate(0, -500);
        x.open(0, 0);
        x.pass(1);
        x.open(0, 0);
        x.pass(1);
        x.open(0, 0);
        x.setRate(0, 500);
        x.pass(1);
        x.open(0, 0);
        x.meetDoor(0, 0);
        x.open(0, 0);
        int[] due = {0, 0, 1, 2, 3};
        for (int audit = 0; audit < due.length; audit++) {
            due("minuteOf(" + audit + ")", x.minuteOf(audit), due[audit]);
        }
    }

    private void leastAndGreatestMinute() {
        Doorledger x = Ledgers.withAudits(1);
        due("minuteOf(0), the least", x.minuteOf(0), 0);
        x.setRate(0, 500);
        Ledgers.passTo(x, 100000);
        due("open(0, 0)", x.open(0, 0), 'l');
        due("minuteOf(1), the greatest", x.minuteOf(1), 150000);
    }

    private void versionOfTheTry() {
        Doorledger x = Ledgers.withAudits(1);
        x.setDoors(0, 0);
        x.open(0, 0);
        x.meetCloud(0);
        x.meetDoor(0, 0);
        x.open(0, 0);
        x.setDoors(0, 31);
        due("versionAt(0)", x.versionAt(0), 1);
        due("versionAt(1), the door did not have the next", x.versionAt(1), 1);
        due("versionAt(2), the door had the next", x.versionAt(2), 2);
    }

    private void leastAndGreatestVersion() {
        Doorledger x = Ledgers.fresh();
        x.addDoor();
        x.addPhone();
        x.addKey(31, 0, 1);
        x.open(0, 0);
        due("versionAt(0), the least", x.versionAt(0), 0);
        for (int version = 2; version <= 50; version++) {
            x.setDoors(0, 31);
        }
        x.meetCloud(0);
        x.meetDoor(0, 0);
        x.open(0, 0);
        due("versionAt(1), the greatest", x.versionAt(1), 50);
        due("versionAt(0), as it was", x.versionAt(0), 0);
    }

    private void arrivesAtTheCloud() {
        Doorledger x = Ledgers.withAudits(1);
        due("hasArrived(0), waiting", x.hasArrived(0), false);
        x.meetCloud(0);
        due("hasArrived(0), waiting when a phone met the cloud", x.hasArrived(0), false);
        x.meetDoor(0, 0);
        due("hasArrived(0), carried", x.hasArrived(0), false);
        x.meetCloud(1);
        due("hasArrived(0), carried by the other phone", x.hasArrived(0), false);
        x.meetCloud(0);
        due("hasArrived(0), in the cloud", x.hasArrived(0), true);
        x.meetDoor(1, 0);
        due("hasArrived(0), when its door is met again", x.hasArrived(0), true);
    }

    private void oneArrivesOrAll() {
        Doorledger x = Ledgers.withAudits(1);
        x.meetDoor(0, 0);
        x.meetCloud(0);
        for (int audit = 1; audit < Ledgers.AUDITS; audit++) {
            x.open(0, 0);
            due("hasArrived(" + audit + "), just made at minute 0", x.hasArrived(audit), false);
        }
        x.meetDoor(1, 0);
        x.meetCloud(1);
        for (int audit = 0; audit < Ledgers.AUDITS; audit++) {
            due("hasArrived(" + audit + ")", x.hasArrived(audit), true);
        }
    }
}
