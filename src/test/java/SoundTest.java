/** No call makes a ledger unsound, so this test spoils what it keeps: isSound must tell of it. */
public final class SoundTest {
    private static final Checks checks = new Checks();

    public static void main(String[] args) {
        checks.due("isSound() when nothing is spoilt", ledger().isSound(), true);
        for (int door = 0; door < 2; door++) {
            spoilDoor(door);
        }
        for (int phone = 0; phone < 2; phone++) {
            Doorledger x = ledger();
            Inside.spoil(x, "phones", phone, "version", 3);
            checks.due("isSound() when phone " + phone + " is ahead of the cloud", x.isSound(), false);
        }
        for (int audit = 0; audit < 2; audit++) {
            Doorledger x = ledger();
            Inside.spoil(x, "audits", audit, "letter", 'e');
            checks.due("isSound() when the letter of audit " + audit + " is another", x.isSound(), false);
        }
        checks.end();
    }

    private static void spoilDoor(int door) {
        Doorledger x = ledger();
        Inside.spoil(x, "doors", door, "version", 1);
        checks.due("versionByReplay of a spoilt door", x.versionByReplay(door), 2);
        checks.due("isSound() when door " + door + " is behind its meetings", x.isSound(), false);
        Doorledger y = ledger();
        Inside.spoil(y, "doors", door, "firstVersion", 3);
        Inside.spoil(y, "doors", door, "version", 3);
        checks.due("isSound() when door " + door + " is ahead of the cloud", y.isSound(), false);
    }

    /** Version 2 in the cloud, at two doors and on two phones, and two audits. */
    private static Doorledger ledger() {
        Doorledger x = new Doorledger();
        x.addDoor();
        x.addDoor();
        x.addKey(3, 0, 100);
        x.setTimes(0, 0, 50);
        for (int i = 0; i < 2; i++) {
            x.addPhone();
            x.meetCloud(i);
            x.meetDoor(i, i);
            x.open(i, 0);
        }
        return x;
    }
}
