/** Promises 31 to 38: breaches, delays and shares of what has arrived, and soundness. */
final class BreachBoundaries extends Boundaries {
    BreachBoundaries(Checks checks) {
        super(checks);
    }

    @Override
    void all(Sentences s) {
        s.under("Promise 31");
        s.test("Returns whether an audit is a breach.", this::breachByMinute);
        s.test("- `audit`", this::eachAuditIsABreach);
        s.test("Returns whether it is, false if it has not arrived.", this::breachWhenArrived);
        s.test("Throws `NoSuchElementException`", () -> noSuchAudit("isBreach", (x, audit) -> x.isBreach(audit)));
        s.under("Promise 32");
        s.test("Returns the number of breaches.", this::breachesUpToAll);
        s.test("Returns the number of audits that are breaches now.", this::breachesNow);
        s.under("Promise 33");
        s.test("Returns the number of breaches of a door.", this::breachesOfOneDoorUpToAll);
        s.test("- `door`", this::breachesOfEachDoor);
        s.test("Returns the number of audits of the door that are breaches now.", this::breachesAtNow);
        s.test("Throws `IndexOutOfBoundsException`", () -> noSuchDoor("breachesAt", (x, door) -> x.breachesAt(door)));
        delays(s);
        s.under("Promise 37");
        s.test("Returns the share of the audits that have arrived.", this::shareOfArrived);
        s.test("Returns their number divided by that of all audits, both converted to float.", this::eachShare);
        s.test("Throws `ArithmeticException`", this::shareOfNone);
        s.under("Promise 38");
        s.test("Checks whether versionOf() and versionByReplay() agree", this::unsound);
        s.test("Returns whether all of this holds.", this::soundAtTheEdges);
    }

    private void delays(Sentences s) {
        s.under("Promise 34");
        s.test("Returns the sum of the minutes", this::delaysOfArrived);
        s.test("Returns the sum.", this::leastAndGreatestSum);
        s.under("Promise 35");
        s.test("Returns the mean of these minutes.", this::meanOfArrived);
        s.test("Returns the sum divided by", this::eachMean);
        s.test("Throws `ArithmeticException`", () -> noneHasArrived("meanDelay()", Doorledger::meanDelay));
        s.under("Promise 36");
        s.test("Returns the bits of the mean.", this::bitsOfLeastAndGreatest);
        s.test("Returns the bits, as Double.doubleToLongBits gives them.", this::bitsOfEachMean);
        s.test("Throws `ArithmeticException`", () -> noneHasArrived("meanBits()", Doorledger::meanBits));
    }

    /** A town where key 0 is revoked in the minute of its audits, and each of them has arrived. */
    private static Doorledger breachedTown() {
        Doorledger x = Ledgers.town();
        x.revoke(0);
        for (int door = 0; door < Ledgers.DOORS; door++) {
            x.meetDoor(0, door);
        }
        x.meetCloud(0);
        return x;
    }

    /** So many audits of minute 0, of which so many have arrived, after so many minutes. */
    private static Doorledger arrived(int audits, int arrived, int minutes) {
        Doorledger x = Ledgers.withAudits(arrived);
        x.meetDoor(0, 0);
        for (int audit = arrived; audit < audits; audit++) {
            x.open(0, 0);
        }
        Ledgers.passTo(x, minutes);
        x.meetCloud(0);
        return x;
    }

    /** So many audits that have arrived, with delays whose sum is the number. */
    private static Doorledger meanOf(int sum, int audits) {
        int least = sum / audits;
        int longer = sum % audits;
        Doorledger x = Ledgers.withAudits(longer);
        x.pass(1);
        for (int audit = longer; audit < audits; audit++) {
            x.open(0, 0);
        }
        x.meetDoor(0, 0);
        Ledgers.passTo(x, 1 + least);
        x.meetCloud(0);
        return x;
    }

    private void breachByMinute() {
        Doorledger x = Ledgers.withAudits(1);
        x.pass(1);
        x.open(0, 0);
        x.revoke(0);
        x.pass(1);
        x.open(0, 0);
        x.meetDoor(0, 0);
        x.meetCloud(0);
        due("isBreach(0), revoked a minute later", x.isBreach(0), false);
        due("isBreach(1), revoked in its minute", x.isBreach(1), true);
        due("isBreach(2), revoked a minute ahead", x.isBreach(2), true);
    }

    private void eachAuditIsABreach() {
        Doorledger x = Ledgers.fresh();
        x.addKey(1, 0, 1000);
        x.addDoor();
        x.addPhone();
        for (int minute = 1; minute <= Ledgers.AUDITS; minute++) {
            x.pass(1);
            if (minute % 2 == 1) {
                x.setDoors(0, minute % 4 == 1 ? 0 : 1);
            }
            x.open(0, 0);
        }
        x.meetDoor(0, 0);
        x.meetCloud(0);
        for (int audit = 0; audit < Ledgers.AUDITS; audit++) {
            due("isBreach(" + audit + ")", x.isBreach(audit), audit % 4 < 2);
        }
        Doorledger both = breachedTown();
        due("isBreach(0), the first", both.isBreach(0), true);
        due("isBreach(9), the last", both.isBreach(9), true);
    }

    private void breachWhenArrived() {
        Doorledger x = Ledgers.withAudits(1);
        x.revoke(0);
        due("isBreach(0), waiting", x.isBreach(0), false);
        x.meetDoor(0, 0);
        due("isBreach(0), carried", x.isBreach(0), false);
        x.meetCloud(1);
        due("isBreach(0), when the other phone met the cloud", x.isBreach(0), false);
        x.meetCloud(0);
        due("isBreach(0), arrived", x.isBreach(0), true);
        Ledgers.passTo(x, 100000);
        due("isBreach(0), at the end of time", x.isBreach(0), true);
    }

    private void breachesUpToAll() {
        for (int audits : new int[] {0, 1, 59, 60}) {
            Doorledger x = Ledgers.withAudits(audits);
            x.setDoors(0, 0);
            x.meetDoor(0, 0);
            due("breaches(), none has arrived of " + audits, x.breaches(), 0);
            x.meetCloud(0);
            due("breaches() of " + audits, x.breaches(), audits);
        }
        due("breaches() without doors", Ledgers.fresh().breaches(), 0);
        due("breaches() at all doors", breachedTown().breaches(), Ledgers.TOWN_AUDITS);
    }

    private void breachesNow() {
        Doorledger x = fastAudits();
        due("breaches() ahead of the change", x.breaches(), 0);
        x.setDoors(0, 0);
        due("breaches() when the door is taken", x.breaches(), 2);
        x.pass(4);
        x.setDoors(0, 31);
        due("breaches() when it is given back at the minute of the first", x.breaches(), 0);
        x.pass(1);
        x.revoke(0);
        due("breaches() when it is revoked at the minute of the second", x.breaches(), 1);
    }

    /** Two audits that have arrived at minute 13, and are of the minutes 17 and 18 by the fast clock of their door. */
    private static Doorledger fastAudits() {
        Doorledger x = Ledgers.withAudits(0);
        x.setRate(0, 500);
        x.pass(11);
        x.setRate(0, 0);
        x.pass(1);
        x.open(0, 0);
        x.pass(1);
        x.open(0, 0);
        x.meetDoor(0, 0);
        x.meetCloud(0);
        return x;
    }

    private void breachesOfOneDoorUpToAll() {
        for (int audits : new int[] {0, 1, 59, 60}) {
            Doorledger x = Ledgers.withAudits(audits);
            x.addDoor();
            x.setDoors(0, 0);
            x.meetDoor(0, 0);
            due("breachesAt(0), none has arrived of " + audits, x.breachesAt(0), 0);
            x.meetCloud(0);
            due("breachesAt(0) of " + audits, x.breachesAt(0), audits);
            due("breachesAt(1), the other door", x.breachesAt(1), 0);
        }
    }

    private void breachesOfEachDoor() {
        Doorledger x = breachedTown();
        for (int door = 0; door < Ledgers.DOORS; door++) {
            due("breachesAt(" + door + ")", x.breachesAt(door), door);
        }
    }

    private void breachesAtNow() {
        Doorledger x = fastAudits();
        due("breachesAt(0) ahead of the change", x.breachesAt(0), 0);
        x.setTimes(0, 18, 1000);
        due("breachesAt(0) when the first is too early", x.breachesAt(0), 1);
        x.setTimes(0, 0, 17);
        due("breachesAt(0) when both are late", x.breachesAt(0), 2);
        x.setTimes(0, 17, 19);
        due("breachesAt(0) when the times hold both", x.breachesAt(0), 0);
    }

    private void delaysOfArrived() {
        Doorledger x = Ledgers.withAudits(0);
        x.setRate(0, 500);
        x.pass(10);
        x.open(0, 0);
        x.pass(1);
        x.meetDoor(0, 0);
        due("delays(), carried", x.delays(), 0L);
        x.pass(1);
        x.meetCloud(0);
        due("delays(), arrived", x.delays(), 2L);
        x.pass(1);
        due("delays(), later", x.delays(), 2L);
        x.open(0, 0);
        x.pass(1);
        due("delays(), the next one waits", x.delays(), 2L);
        x.meetDoor(1, 0);
        x.meetCloud(0);
        due("delays(), the other phone carries it", x.delays(), 2L);
        x.meetCloud(1);
        due("delays(), both arrived", x.delays(), 3L);
        x.open(0, 0);
        x.meetDoor(0, 0);
        x.meetCloud(0);
        due("delays(), one more arrived in its minute", x.delays(), 3L);
    }

    private void leastAndGreatestSum() {
        due("delays() without audits", Ledgers.fresh().delays(), 0L);
        due("delays() of 60 in their minute", arrived(60, 60, 0).delays(), 0L);
        due("delays() of one in the next minute", arrived(1, 1, 1).delays(), 1L);
        due("delays() of one in 60 in the next minute", arrived(60, 1, 1).delays(), 1L);
        due("delays(), the greatest of one", arrived(1, 1, 100000).delays(), 100000L);
        due("delays(), the greatest", arrived(60, 60, 100000).delays(), 6000000L);
    }

    private void meanOfArrived() {
        due("meanDelay() of 0", arrived(1, 1, 0).meanDelay(), 0.0);
        due("meanDelay() of 0, 60 audits", arrived(60, 60, 0).meanDelay(), 0.0);
        due("meanDelay() of those that have arrived", arrived(60, 3, 7).meanDelay(), 7.0);
        due("meanDelay(), the greatest", arrived(60, 60, 100000).meanDelay(), 100000.0);
        due("meanDelay(), the least above 0", meanOf(1, 60).meanDelay(), 1.0 / 60.0);
        due("meanDelay(), the greatest below the end", meanOf(5999941, 60).meanDelay(), 5999941.0 / 60.0);
    }

    private void eachMean() {
        for (int audits = 1; audits <= Ledgers.AUDITS; audits++) {
            for (int sum : new int[] {0, 1, audits - 1, audits, audits + 1, 1000 * audits + audits / 2}) {
                due("meanDelay() of " + sum + " by " + audits, meanOf(sum, audits).meanDelay(), (double) sum / (double) audits);
            }
        }
    }

    private void noneHasArrived(String call, java.util.function.Function<Doorledger, Object> asked) {
        refused(call + " without audits", Ledgers::fresh, asked, ARITHMETIC);
        refused(call + ", the only audit waits", Ledgers.again(Ledgers::withAudits, 1), asked, ARITHMETIC);
        refused(call + ", 60 audits wait", Ledgers.again(Ledgers::withAudits, 60), asked, ARITHMETIC);
        refused(call + ", audits are carried", () -> {
            Doorledger x = Ledgers.town();
            x.meetDoor(2, 4);
            return x;
        }, asked, ARITHMETIC);
        String answer = Checks.answerOf(() -> asked.apply(arrived(60, 1, 0)));
        due(call + " when one of 60 has arrived throws", answer.contains("throws"), false);
    }

    private void bitsOfLeastAndGreatest() {
        due("meanBits() of 0", arrived(1, 1, 0).meanBits(), 0L);
        due("meanBits() of 0, 60 audits", arrived(60, 60, 0).meanBits(), 0L);
        due("meanBits() of 1", arrived(1, 1, 1).meanBits(), 0x3FF0000000000000L);
        due("meanBits() of 2", arrived(1, 1, 2).meanBits(), 0x4000000000000000L);
        due("meanBits() of 1/2", meanOf(1, 2).meanBits(), 0x3FE0000000000000L);
        due("meanBits() of 1/60", meanOf(1, 60).meanBits(), Double.doubleToLongBits(1.0 / 60.0));
        due("meanBits() of 100000", arrived(60, 60, 100000).meanBits(), 0x40F86A0000000000L);
    }

    private void bitsOfEachMean() {
        for (int audits = 1; audits <= Ledgers.AUDITS; audits++) {
            for (int power = 1; power <= 65536; power *= 2) {
                for (int sum : new int[] {power * audits - 1, power * audits, power * audits + 1, power}) {
                    due("meanBits() of " + sum + " by " + audits, meanOf(sum, audits).meanBits(),
                        Double.doubleToLongBits((double) sum / (double) audits));
                }
            }
        }
    }

    private void shareOfArrived() {
        Doorledger x = Ledgers.withAudits(1);
        due("arrivedShare(), waiting", x.arrivedShare(), 0.0f);
        x.meetDoor(0, 0);
        due("arrivedShare(), carried", x.arrivedShare(), 0.0f);
        x.meetCloud(0);
        due("arrivedShare(), arrived", x.arrivedShare(), 1.0f);
        x.open(0, 0);
        due("arrivedShare(), one of two", x.arrivedShare(), 0.5f);
    }

    private void eachShare() {
        for (int audits = 1; audits <= Ledgers.AUDITS; audits++) {
            for (int some : new int[] {0, 1, audits / 2, audits - 1, audits}) {
                due("arrivedShare() of " + some + " in " + audits, arrived(audits, some, 0).arrivedShare(),
                    (float) some / (float) audits);
            }
        }
    }

    private void shareOfNone() {
        refused("arrivedShare() of a new object", Ledgers::fresh, Doorledger::arrivedShare, ARITHMETIC);
        refused("arrivedShare() without audits", Ledgers.again(Ledgers::withAudits, 0), Doorledger::arrivedShare, ARITHMETIC);
        due("arrivedShare() of one that waits", Ledgers.withAudits(1).arrivedShare(), 0.0f);
    }

    private void unsound() {
        for (int door = 0; door < Ledgers.DOORS; door++) {
            Doorledger ahead = Ledgers.town();
            Inside.spoil(ahead, "doors", door, "version", door + 2);
            due("isSound() when door " + door + " has one more than by replay", ahead.isSound(), false);
            Doorledger behind = Ledgers.town();
            Inside.spoil(behind, "doors", door, "version", door);
            due("isSound() when door " + door + " has one less than by replay", behind.isSound(), false);
            Doorledger beyond = Ledgers.town();
            Inside.spoil(beyond, "doors", door, "version", 7);
            Inside.spoil(beyond, "doors", door, "firstVersion", 7);
            due("isSound() when door " + door + " has one more than the cloud", beyond.isSound(), false);
        }
        for (int phone = 0; phone < Ledgers.PHONES; phone++) {
            Doorledger x = Ledgers.town();
            Inside.spoil(x, "phones", phone, "version", 7);
            due("isSound() when phone " + phone + " has one more than the cloud", x.isSound(), false);
            Inside.spoil(x, "phones", phone, "version", 6);
            due("isSound() when phone " + phone + " has the same as the cloud", x.isSound(), true);
        }
        for (int audit = 0; audit < Ledgers.AUDITS; audit++) {
            Doorledger x = AuditBoundaries.diary();
            Inside.spoil(x, "audits", audit, "letter", 'l');
            due("isSound() when audit " + audit + " has another letter", x.isSound(), false);
        }
    }

    private void soundAtTheEdges() {
        due("isSound() of a new object", Ledgers.fresh().isSound(), true);
        due("isSound() of a town", Ledgers.busyTown().isSound(), true);
        due("isSound() with 8 keys", Ledgers.townWithKeys(8).isSound(), true);
        due("isSound() with 60 audits", Ledgers.townWithAudits(60).isSound(), true);
        Doorledger x = Ledgers.townWithChanges(50);
        for (int phone = 0; phone < Ledgers.PHONES; phone++) {
            x.meetCloud(phone);
            x.meetDoor(phone, phone);
        }
        due("isSound() when doors and phones have version 50", x.isSound(), true);
        due("isSound() at the end of time", Ledgers.townAt(100000).isSound(), true);
    }
}
