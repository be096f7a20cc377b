import java.util.NoSuchElementException;
import java.util.function.Supplier;

/** For each promise ordinary inputs, the edges that the document names, and wrong inputs. */
public final class PromisesTest {
    private static final Class<IllegalArgumentException> ARGUMENT = IllegalArgumentException.class;
    private static final Class<IllegalStateException> STATE = IllegalStateException.class;
    private static final Class<IndexOutOfBoundsException> INDEX = IndexOutOfBoundsException.class;
    private static final Class<NoSuchElementException> ELEMENT = NoSuchElementException.class;
    private static final Class<ArithmeticException> ARITHMETIC = ArithmeticException.class;

    private static final Checks checks = new Checks();

    public static void main(String[] args) {
        aNewObject();
        addKey();
        changes();
        changesRefused();
        doors();
        setRate();
        phones();
        pass();
        meetCloud();
        meetDoor();
        letters();
        openRefused();
        clocks();
        versions();
        fromIn();
        waitingAndCarried();
        auditsAsked();
        breaches();
        breachesOfTheFuture();
        breachesOfThePast();
        delays();
        shares();
        sound();
        checks.end();
    }

    private static void due(String call, Object got, Object want) {
        checks.due(call, got, want);
    }

    private static Doorledger fresh() {
        return new Doorledger();
    }

    /** Doors 0 and 1, phone 0, key 0 good at door 0 in 10 to 100, known at the doors, minute 10. */
    private static Doorledger shop() {
        Doorledger x = new Doorledger();
        x.addKey(1, 10, 100);
        x.addDoor();
        x.addDoor();
        x.addPhone();
        x.pass(10);
        return x;
    }

    /** The shop with audits that wait, are carried and have arrived, a revoked key 1, and rates. */
    private static Doorledger busy() {
        Doorledger x = shop();
        x.addKey(3, 0, 50);
        x.open(0, 0);
        x.meetDoor(0, 0);
        x.pass(5);
        x.meetCloud(0);
        x.setRate(1, 333);
        x.open(0, 0);
        x.meetDoor(0, 0);
        x.revoke(1);
        x.pass(7);
        x.open(1, 0);
        x.open(0, 1);
        return x;
    }

    private static Doorledger withKeys(int keys) {
        Doorledger x = busy();
        for (int key = 2; key < keys; key++) {
            x.addKey(31, 0, 100000);
        }
        return x;
    }

    private static Doorledger withChanges(int changes) {
        Doorledger x = busy();
        while (x.version() < changes) {
            x.setDoors(0, 1);
        }
        return x;
    }

    private static Doorledger withAudits(int audits) {
        Doorledger x = shop();
        while (x.audits() < audits) {
            x.open(0, 0);
        }
        return x;
    }

    private static void aNewObject() {
        Doorledger x = fresh();
        due("new version()", x.version(), 0);
        due("new time()", x.time(), 0);
        due("new audits()", x.audits(), 0);
        due("new breaches()", x.breaches(), 0);
        due("new delays()", x.delays(), 0L);
        due("new isSound()", x.isSound(), true);
        due("no keys: setDoors(0)", Checks.answerOf(() -> x.setDoors(0, 1)), "throws.NoSuchElementException");
        due("no doors: clock(0)", Checks.answerOf(() -> x.clock(0)), "throws.IndexOutOfBoundsException");
        due("no phones: versionOn(0)", Checks.answerOf(() -> x.versionOn(0)), "throws.IndexOutOfBoundsException");
        Doorledger other = fresh();
        x.addKey(0, 0, 1);
        due("another object's version()", other.version(), 0);
    }

    private static void addKey() {
        Doorledger x = fresh();
        due("addKey(0, 0, 1)", x.addKey(0, 0, 1), 0);
        due("addKey(31, 99999, 100000)", x.addKey(31, 99999, 100000), 1);
        due("addKey(4, 0, 100000)", x.addKey(4, 0, 100000), 2);
        due("version() after three keys", x.version(), 3);
        for (int key = 3; key < 8; key++) {
            due("addKey up to 8", x.addKey(1, 0, 1), key);
        }
        Supplier<Doorledger> busy = PromisesTest::busy;
        int[][] bad = {{-1, 0, 1}, {32, 0, 1}, {1, -1, 1}, {1, 5, 5}, {1, 6, 5}, {1, 0, 100001},
            {1, 100000, 100001}, {1, 100000, 100000}, {1, 0, 0}, {1, Integer.MIN_VALUE, 1},
            {1, 0, Integer.MAX_VALUE}, {Integer.MIN_VALUE, 0, 1}, {Integer.MAX_VALUE, 0, 1}};
        for (int[] b : bad) {
            checks.refused("addKey of " + b[0] + ", " + b[1] + ", " + b[2], busy, y -> y.addKey(b[0], b[1], b[2]), ARGUMENT);
        }
        checks.refused("addKey, the ninth", () -> withKeys(8), y -> y.addKey(1, 0, 1), STATE);
        checks.refused("addKey, the ninth, bad set", () -> withKeys(8), y -> y.addKey(32, 0, 1), ARGUMENT);
        checks.refused("addKey, the 51st change", () -> withChanges(50), y -> y.addKey(1, 0, 1), STATE);
        checks.refused("addKey, the 51st change, bad times", () -> withChanges(50), y -> y.addKey(1, 1, 1), ARGUMENT);
        due("addKey, the 50th change", withChanges(49).addKey(1, 0, 1), 2);
    }

    private static void changes() {
        Doorledger x = fresh();
        x.addKey(1, 10, 100);
        due("setTimes(0, 0, 100000)", x.setTimes(0, 0, 100000), 2);
        due("setTimes, the same", x.setTimes(0, 0, 100000), 3);
        due("setTimes(0, 99999, 100000)", x.setTimes(0, 99999, 100000), 4);
        due("setDoors(0, 31)", x.setDoors(0, 31), 5);
        due("setDoors, the same", x.setDoors(0, 31), 6);
        due("setDoors(0, 0)", x.setDoors(0, 0), 7);
        due("addKey", x.addKey(1, 0, 1), 1);
        due("revoke(1)", x.revoke(1), 9);
        due("revoke(0)", x.revoke(0), 10);
        due("version()", x.version(), 10);
        due("setTimes, the 50th change", withChanges(49).setTimes(0, 1, 2), 50);
        due("setDoors, the 50th change", withChanges(49).setDoors(0, 0), 50);
        due("revoke, the 50th change", withChanges(49).revoke(0), 50);
        changesKeepTheRest();
    }

    private static void changesKeepTheRest() {
        Doorledger x = fresh();
        x.addKey(1, 10, 20);
        x.addKey(2, 30, 40);
        x.setTimes(0, 12, 22);
        x.setDoors(0, 3);
        x.pass(15);
        x.addDoor();
        x.addDoor();
        due("answer(0, 0)", x.answer(0, 0), 'o');
        due("answer(1, 0)", x.answer(1, 0), 'o');
        due("answer(0, 1), another key's doors stay", x.answer(0, 1), 'd');
        due("answer(1, 1), another key's times stay", x.answer(1, 1), 'e');
        due("fromIn(0, 0)", x.fromIn(0, 0), 12);
        x.pass(6);
        due("answer(0, 0) at 21, the new end", x.answer(0, 0), 'o');
        x.revoke(0);
        due("a door keeps its old list", x.answer(0, 0), 'o');
        x.addDoor();
        due("a new door has the present list", x.answer(2, 0), 'r');
        due("fromIn of a revoked key", x.fromIn(2, 0), 12);
    }

    private static void changesRefused() {
        Supplier<Doorledger> busy = PromisesTest::busy;
        for (int key : new int[] {-1, 2, 8, Integer.MIN_VALUE, Integer.MAX_VALUE}) {
            checks.refused("setTimes of key " + key, busy, y -> y.setTimes(key, 0, 1), ELEMENT);
            checks.refused("setTimes of key " + key + ", bad times", busy, y -> y.setTimes(key, 1, 1), ELEMENT);
            checks.refused("setDoors of key " + key, busy, y -> y.setDoors(key, 1), ELEMENT);
            checks.refused("setDoors of key " + key + ", bad set", busy, y -> y.setDoors(key, 32), ELEMENT);
            checks.refused("revoke of key " + key, busy, y -> y.revoke(key), ELEMENT);
        }
        int[][] bad = {{-1, 1}, {5, 5}, {6, 5}, {0, 100001}, {100000, 100001}, {0, 0}, {Integer.MIN_VALUE, Integer.MAX_VALUE}};
        for (int[] b : bad) {
            checks.refused("setTimes to " + b[0] + ", " + b[1], busy, y -> y.setTimes(0, b[0], b[1]), ARGUMENT);
            checks.refused("setTimes of a revoked key to " + b[0] + ", " + b[1], busy, y -> y.setTimes(1, b[0], b[1]), ARGUMENT);
        }
        for (int doors : new int[] {-1, 32, Integer.MIN_VALUE, Integer.MAX_VALUE}) {
            checks.refused("setDoors to " + doors, busy, y -> y.setDoors(0, doors), ARGUMENT);
            checks.refused("setDoors of a revoked key to " + doors, busy, y -> y.setDoors(1, doors), ARGUMENT);
        }
        checks.refused("setTimes of a revoked key", busy, y -> y.setTimes(1, 0, 1), STATE);
        checks.refused("setDoors of a revoked key", busy, y -> y.setDoors(1, 1), STATE);
        checks.refused("revoke of a revoked key", busy, y -> y.revoke(1), STATE);
        Supplier<Doorledger> full = () -> withChanges(50);
        checks.refused("setTimes, the 51st change", full, y -> y.setTimes(0, 0, 1), STATE);
        checks.refused("setDoors, the 51st change", full, y -> y.setDoors(0, 1), STATE);
        checks.refused("revoke, the 51st change", full, y -> y.revoke(0), STATE);
        checks.refused("setTimes, the 51st change, no key", full, y -> y.setTimes(5, 0, 1), ELEMENT);
        checks.refused("setTimes, the 51st change, bad times", full, y -> y.setTimes(0, 1, 0), ARGUMENT);
        checks.refused("setDoors, the 51st change, no key", full, y -> y.setDoors(5, 1), ELEMENT);
        checks.refused("setDoors, the 51st change, bad set", full, y -> y.setDoors(0, 32), ARGUMENT);
        checks.refused("revoke, the 51st change, no key", full, y -> y.revoke(5), ELEMENT);
    }

    private static void doors() {
        Doorledger x = fresh();
        x.pass(30);
        x.addKey(1, 0, 50);
        for (int door = 0; door < 5; door++) {
            due("addDoor()", x.addDoor(), door);
            due("clock of a new door", x.clock(door), 30);
            due("drifted of a new door", x.drifted(door), 0.0f);
            due("versionOf a new door", x.versionOf(door), 1);
            due("versionByReplay of a new door", x.versionByReplay(door), 1);
        }
        Supplier<Doorledger> five = () -> {
            Doorledger y = busy();
            y.addDoor();
            y.addDoor();
            y.addDoor();
            return y;
        };
        checks.refused("addDoor, the sixth", five, Doorledger::addDoor, STATE);
    }

    private static void setRate() {
        Doorledger x = fresh();
        x.addDoor();
        x.addDoor();
        due("setRate(0, 500)", x.setRate(0, 500), 0);
        due("setRate(1, -500)", x.setRate(1, -500), 0);
        x.pass(3);
        due("clock at 1.5", x.clock(0), 4);
        due("drifted at 1.5", x.drifted(0), 4.5f);
        due("clock at 0.5", x.clock(1), 1);
        due("setRate answers the minute shown", x.setRate(0, 0), 4);
        due("the part behind the point is gone", x.drifted(0), 0.0f);
        x.pass(1);
        due("clock at 1.0 from 4", x.clock(0), 5);
        due("clock at 0.5, not set again", x.clock(1), 2);
        due("setRate(0, 1)", x.setRate(0, 1), 5);
        x.pass(10000);
        due("clock at 1.001", x.clock(0), 5 + (int) (10000f * (1.0f + 1f / 1000.0f)));
        due("the bits at 1.001", x.driftedBits(0), Float.floatToIntBits(10000f * (1.0f + 1f / 1000.0f)));
        Supplier<Doorledger> busy = PromisesTest::busy;
        for (int door : new int[] {-1, 2, 5, Integer.MIN_VALUE, Integer.MAX_VALUE}) {
            checks.refused("setRate of door " + door, busy, y -> y.setRate(door, 0), INDEX);
            checks.refused("setRate of door " + door + ", bad rate", busy, y -> y.setRate(door, 501), INDEX);
        }
        for (int rate : new int[] {-501, 501, Integer.MIN_VALUE, Integer.MAX_VALUE}) {
            checks.refused("setRate to " + rate, busy, y -> y.setRate(1, rate), ARGUMENT);
        }
    }

    private static void phones() {
        Doorledger x = fresh();
        x.addKey(1, 0, 50);
        for (int phone = 0; phone < 3; phone++) {
            due("addPhone()", x.addPhone(), phone);
            due("versionOn a new phone", x.versionOn(phone), 0);
            due("carried of a new phone", x.carried(phone), 0);
        }
        Supplier<Doorledger> three = () -> {
            Doorledger y = busy();
            y.addPhone();
            y.addPhone();
            return y;
        };
        checks.refused("addPhone, the fourth", three, Doorledger::addPhone, STATE);
        for (int phone : new int[] {-1, 1, 3, Integer.MIN_VALUE, Integer.MAX_VALUE}) {
            checks.refused("versionOn of " + phone, PromisesTest::busy, y -> y.versionOn(phone), INDEX);
            checks.refused("carried of " + phone, PromisesTest::busy, y -> y.carried(phone), INDEX);
            checks.refused("meetCloud of " + phone, PromisesTest::busy, y -> y.meetCloud(phone), INDEX);
            checks.refused("meetDoor of " + phone, PromisesTest::busy, y -> y.meetDoor(phone, 0), INDEX);
        }
    }

    private static void pass() {
        Doorledger x = fresh();
        due("pass(1)", x.pass(1), 1);
        due("pass(10000)", x.pass(10000), 10001);
        due("time()", x.time(), 10001);
        for (int i = 0; i < 8; i++) {
            x.pass(10000);
        }
        due("pass up to the end", x.pass(9999), 100000);
        due("time() at the end", x.time(), 100000);
        due("pass(1) at the end", Checks.answerOf(() -> x.pass(1)), "throws.IllegalArgumentException");
        due("time() still", x.time(), 100000);
        for (int minutes : new int[] {0, -1, 10001, Integer.MIN_VALUE, Integer.MAX_VALUE}) {
            checks.refused("pass(" + minutes + ")", PromisesTest::busy, y -> y.pass(minutes), ARGUMENT);
        }
        Supplier<Doorledger> late = () -> {
            Doorledger y = busy();
            while (y.time() < 90000) {
                y.pass(10000);
            }
            return y;
        };
        int left = 100000 - late.get().time();
        checks.refused("pass over the end", late, y -> y.pass(left + 1), ARGUMENT);
        due("pass to the end", late.get().pass(left), 100000);
    }

    private static void meetCloud() {
        Doorledger x = shop();
        x.open(0, 0);
        x.open(0, 0);
        due("meetCloud without audits", x.meetCloud(0), 0);
        due("the phone has the present list", x.versionOn(0), 1);
        due("audits at the door do not arrive", x.hasArrived(0), false);
        x.addPhone();
        x.meetDoor(1, 0);
        x.open(1, 0);
        x.meetDoor(0, 1);
        due("meetCloud, only its own audits", x.meetCloud(0), 1);
        due("hasArrived(2)", x.hasArrived(2), true);
        due("hasArrived(0), on the other phone", x.hasArrived(0), false);
        due("meetCloud of the other", x.meetCloud(1), 2);
        due("meetCloud again", x.meetCloud(1), 0);
        due("hasArrived(1)", x.hasArrived(1), true);
        x.setDoors(0, 3);
        due("a phone keeps its old list", x.versionOn(1), 1);
    }

    private static void meetDoor() {
        Doorledger x = shop();
        x.addPhone();
        x.setTimes(0, 5, 60);
        x.meetCloud(0);
        x.setTimes(0, 6, 60);
        x.meetCloud(1);
        x.open(0, 0);
        x.open(1, 0);
        due("meetDoor(1, 0)", x.meetDoor(1, 0), 1);
        due("the door takes the greater version", x.versionOf(0), 3);
        due("meetDoor(0, 0), all taken", x.meetDoor(0, 0), 0);
        due("the door keeps the greater version", x.versionOf(0), 3);
        due("the phone keeps its own version", x.versionOn(0), 2);
        due("meetDoor(0, 1)", x.meetDoor(0, 1), 1);
        due("the other door", x.versionOf(1), 2);
        x.setRate(0, 500);
        x.pass(10);
        due("clock ahead of a meeting", x.clock(0), 25);
        x.meetDoor(0, 0);
        due("clock after a meeting", x.clock(0), 20);
        due("drifted after a meeting", x.drifted(0), 0.0f);
        x.pass(10);
        due("a meeting keeps the rate", x.clock(0), 35);
        for (int door : new int[] {-1, 2, 5, Integer.MIN_VALUE, Integer.MAX_VALUE}) {
            checks.refused("meetDoor at " + door, PromisesTest::busy, y -> y.meetDoor(0, door), INDEX);
        }
    }

    private static void letters() {
        Doorledger x = fresh();
        x.addDoor();
        x.addDoor();
        x.addPhone();
        x.addKey(1, 10, 20);
        x.addKey(1, 10, 20);
        letter(x, 0, 'u');
        x.meetCloud(0);
        x.meetDoor(0, 0);
        x.meetDoor(0, 1);
        letter(x, 0, 'e');
        due("'d' goes ahead of 'e'", x.answer(1, 0), 'd');
        x.pass(9);
        letter(x, 0, 'e');
        x.pass(1);
        letter(x, 0, 'o');
        x.pass(9);
        letter(x, 0, 'o');
        x.pass(1);
        letter(x, 0, 'l');
        due("'d' goes ahead of 'l'", x.answer(1, 0), 'd');
        x.revoke(0);
        x.addKey(1, 0, 50);
        x.meetCloud(0);
        letter(x, 0, 'l');
        due("'u' for a key that came later", x.open(0, 2), 'u');
        x.meetDoor(0, 0);
        x.meetDoor(0, 1);
        letter(x, 0, 'r');
        due("'r' goes ahead of 'd'", x.answer(1, 0), 'r');
        letter(x, 1, 'l');
        letter(x, 2, 'o');
        x.setRate(0, 500);
        x.pass(20);
        due("a fast clock is late", x.answer(0, 2), 'l');
        x.pass(20);
        due("'l' far behind the end", x.open(0, 2), 'l');
        x.setRate(0, -500);
        x.pass(1);
        for (int audit = 0; audit < x.audits(); audit++) {
            due("letterByList of old audit " + audit, x.letterByList(audit), x.letterOf(audit));
        }
    }

    private static void letter(Doorledger x, int key, char want) {
        int audits = x.audits();
        due("answer(0, " + key + ") at " + x.time(), x.answer(0, key), want);
        due("answer is no audit", x.audits(), audits);
        due("open(0, " + key + ") at " + x.time(), x.open(0, key), want);
        due("open is an audit", x.audits(), audits + 1);
        due("letterOf the audit", x.letterOf(audits), want);
        due("letterByList of the audit", x.letterByList(audits), want);
    }

    private static void openRefused() {
        Supplier<Doorledger> busy = PromisesTest::busy;
        for (int door : new int[] {-1, 2, 5, Integer.MIN_VALUE, Integer.MAX_VALUE}) {
            checks.refused("open at " + door, busy, y -> y.open(door, 0), INDEX);
            checks.refused("open at " + door + ", no key", busy, y -> y.open(door, 2), INDEX);
            checks.refused("answer at " + door, busy, y -> y.answer(door, 0), INDEX);
            checks.refused("answer at " + door + ", no key", busy, y -> y.answer(door, -1), INDEX);
        }
        for (int key : new int[] {-1, 2, 8, Integer.MIN_VALUE, Integer.MAX_VALUE}) {
            checks.refused("open with " + key, busy, y -> y.open(0, key), ELEMENT);
            checks.refused("answer with " + key, busy, y -> y.answer(0, key), ELEMENT);
        }
        Supplier<Doorledger> full = () -> withAudits(60);
        checks.refused("open, the 61st", full, y -> y.open(0, 0), STATE);
        checks.refused("open, the 61st, no door", full, y -> y.open(2, 0), INDEX);
        checks.refused("open, the 61st, no key", full, y -> y.open(0, 1), ELEMENT);
        due("answer with 60 audits", withAudits(60).answer(0, 0), 'o');
        due("open, the 60th", withAudits(59).open(0, 0), 'o');
    }

    private static void clocks() {
        Doorledger x = fresh();
        x.pass(7);
        x.addDoor();
        x.addPhone();
        due("driftedBits of 0", x.driftedBits(0), 0);
        for (int rate : new int[] {-500, -499, -333, -1, 0, 1, 7, 250, 499, 500}) {
            x.meetDoor(0, 0);
            x.setRate(0, rate);
            float factor = 1.0f + (float) rate / 1000.0f;
            int start = x.time();
            for (int minutes : new int[] {1, 2, 6, 999, 5000}) {
                x.pass(minutes);
                float drifted = (float) (x.time() - start) * factor;
                due("drifted at " + rate, x.drifted(0), drifted);
                due("driftedBits at " + rate, x.driftedBits(0), Float.floatToIntBits(drifted));
                due("clock at " + rate, x.clock(0), start + (int) drifted);
            }
        }
        for (int door : new int[] {-1, 2, 5, Integer.MIN_VALUE, Integer.MAX_VALUE}) {
            checks.refused("clock of " + door, PromisesTest::busy, y -> y.clock(door), INDEX);
            checks.refused("drifted of " + door, PromisesTest::busy, y -> y.drifted(door), INDEX);
            checks.refused("driftedBits of " + door, PromisesTest::busy, y -> y.driftedBits(door), INDEX);
            checks.refused("versionOf " + door, PromisesTest::busy, y -> y.versionOf(door), INDEX);
            checks.refused("versionByReplay of " + door, PromisesTest::busy, y -> y.versionByReplay(door), INDEX);
            checks.refused("waiting of " + door, PromisesTest::busy, y -> y.waiting(door), INDEX);
            checks.refused("breachesAt " + door, PromisesTest::busy, y -> y.breachesAt(door), INDEX);
            checks.refused("fromIn of " + door, PromisesTest::busy, y -> y.fromIn(door, 0), INDEX);
            checks.refused("fromIn of " + door + ", no key", PromisesTest::busy, y -> y.fromIn(door, 7), INDEX);
        }
    }

    private static void versions() {
        Doorledger x = fresh();
        x.addPhone();
        x.addPhone();
        x.addDoor();
        x.addKey(1, 0, 9);
        x.meetCloud(0);
        x.setDoors(0, 3);
        x.setDoors(0, 7);
        x.addDoor();
        x.meetCloud(1);
        x.setDoors(0, 0);
        x.addDoor();
        x.addPhone();
        due("versionOf a door added late", x.versionOf(2), 4);
        x.meetDoor(2, 2);
        due("a phone without a list leaves the door's", x.versionByReplay(2), 4);
        due("versionByReplay of a door at version 0", x.versionByReplay(0), 0);
        x.meetDoor(2, 0);
        due("versionByReplay after a phone without a list", x.versionByReplay(0), 0);
        int[][] meetings = {{0, 0, 1}, {0, 1, 3}, {1, 0, 3}, {1, 1, 3}, {0, 0, 3}};
        for (int[] m : meetings) {
            x.meetDoor(m[0], m[1]);
            due("versionOf(" + m[1] + ")", x.versionOf(m[1]), m[2]);
            due("versionByReplay(" + m[1] + ")", x.versionByReplay(m[1]), m[2]);
        }
        x.meetCloud(0);
        x.meetDoor(0, 1);
        due("versionByReplay of the door that was not met", x.versionByReplay(0), 3);
        due("versionByReplay of the door that was met", x.versionByReplay(1), 4);
        due("versionOn(0)", x.versionOn(0), 4);
        due("versionOn(1)", x.versionOn(1), 3);
    }

    private static void fromIn() {
        Doorledger x = fresh();
        x.addDoor();
        x.addKey(1, 33, 44);
        x.addPhone();
        x.addDoor();
        due("fromIn(1, 0)", x.fromIn(1, 0), 33);
        x.setTimes(0, 34, 44);
        due("fromIn(1, 0), its old list", x.fromIn(1, 0), 33);
        x.meetCloud(0);
        x.meetDoor(0, 1);
        due("fromIn(1, 0), its new list", x.fromIn(1, 0), 34);
        due("fromIn(0, 0), not in its list", Checks.answerOf(() -> x.fromIn(0, 0)), "throws.NoSuchElementException");
        for (int key : new int[] {-1, 2, 8, Integer.MIN_VALUE, Integer.MAX_VALUE}) {
            checks.refused("fromIn of key " + key, PromisesTest::busy, y -> y.fromIn(0, key), ELEMENT);
        }
    }

    private static void waitingAndCarried() {
        Doorledger x = shop();
        x.open(0, 0);
        x.open(1, 0);
        x.open(0, 0);
        due("waiting(0)", x.waiting(0), 2);
        due("waiting(1)", x.waiting(1), 1);
        due("carried(0) ahead of a meeting", x.carried(0), 0);
        due("meetDoor(0, 0)", x.meetDoor(0, 0), 2);
        due("waiting(0) after a meeting", x.waiting(0), 0);
        due("waiting(1), not met", x.waiting(1), 1);
        due("carried(0)", x.carried(0), 2);
        x.meetDoor(0, 1);
        due("carried(0), from two doors", x.carried(0), 3);
        x.meetCloud(0);
        due("carried(0) after the cloud", x.carried(0), 0);
        due("waiting(0) after the cloud", x.waiting(0), 0);
    }

    private static void auditsAsked() {
        Doorledger x = shop();
        x.setRate(1, 100);
        x.pass(10);
        x.open(1, 0);
        x.setDoors(0, 2);
        x.meetCloud(0);
        x.meetDoor(0, 1);
        x.open(1, 0);
        due("audits()", x.audits(), 2);
        due("letterOf(0)", x.letterOf(0), 'd');
        due("letterByList(0)", x.letterByList(0), 'd');
        due("minuteOf(0), by the fast clock", x.minuteOf(0), 21);
        due("versionAt(0)", x.versionAt(0), 1);
        due("letterOf(1)", x.letterOf(1), 'o');
        due("letterByList(1)", x.letterByList(1), 'o');
        due("minuteOf(1)", x.minuteOf(1), 20);
        due("versionAt(1)", x.versionAt(1), 2);
        x.setRate(1, 500);
        x.pass(60);
        x.open(1, 0);
        due("minuteOf(2), when its clock is behind the end and the time is not", x.minuteOf(2), 110);
        due("letterOf(2)", x.letterOf(2), 'l');
        due("letterByList(2), by the clock", x.letterByList(2), 'l');
        for (int audit : new int[] {-1, 4, 60, Integer.MIN_VALUE, Integer.MAX_VALUE}) {
            checks.refused("letterOf " + audit, PromisesTest::busy, y -> y.letterOf(audit), ELEMENT);
            checks.refused("letterByList " + audit, PromisesTest::busy, y -> y.letterByList(audit), ELEMENT);
            checks.refused("minuteOf " + audit, PromisesTest::busy, y -> y.minuteOf(audit), ELEMENT);
            checks.refused("versionAt " + audit, PromisesTest::busy, y -> y.versionAt(audit), ELEMENT);
            checks.refused("hasArrived " + audit, PromisesTest::busy, y -> y.hasArrived(audit), ELEMENT);
            checks.refused("isBreach " + audit, PromisesTest::busy, y -> y.isBreach(audit), ELEMENT);
        }
    }

    private static void breaches() {
        Doorledger x = fresh();
        x.addKey(3, 0, 100);
        x.addKey(3, 0, 100);
        x.addDoor();
        x.addDoor();
        x.addPhone();
        x.pass(10);
        x.open(0, 0);
        x.pass(1);
        x.revoke(0);
        x.open(0, 0);
        x.open(0, 1);
        x.open(1, 1);
        x.setDoors(1, 1);
        x.pass(1);
        x.setTimes(1, 0, 12);
        x.open(0, 1);
        due("breaches() ahead of any arrival", x.breaches(), 0);
        x.meetDoor(0, 0);
        due("isBreach(1), carried", x.isBreach(1), false);
        x.meetCloud(0);
        due("isBreach(0), revoked a minute later", x.isBreach(0), false);
        due("isBreach(1), revoked in its minute", x.isBreach(1), true);
        due("isBreach(2), good", x.isBreach(2), false);
        due("isBreach(3), at the other door", x.isBreach(3), false);
        due("isBreach(4), times cut in its minute", x.isBreach(4), true);
        due("breaches()", x.breaches(), 2);
        due("breachesAt(0)", x.breachesAt(0), 2);
        due("breachesAt(1)", x.breachesAt(1), 0);
        x.meetDoor(0, 1);
        x.meetCloud(0);
        due("isBreach(3), its door taken in its minute", x.isBreach(3), true);
        due("breaches(), of both doors", x.breaches(), 3);
        x.pass(200);
        due("isBreach(2), when its times are over", x.isBreach(2), false);
        due("breaches(), later", x.breaches(), 3);
        due("breachesAt(0)", x.breachesAt(0), 2);
        due("breachesAt(1)", x.breachesAt(1), 1);
        due("the letter r is no breach", breachOfRefusal(), false);
        due("breaches(), only the first audit", firstIsBreach().breaches(), 1);
        due("breachesAt(0), only the first audit", firstIsBreach().breachesAt(0), 1);
        due("breachesAt(1), only the first audit", firstIsBreach().breachesAt(1), 0);
    }

    private static Doorledger firstIsBreach() {
        Doorledger x = shop();
        x.revoke(0);
        x.open(0, 0);
        x.meetDoor(0, 0);
        x.meetCloud(0);
        return x;
    }

    private static boolean breachOfRefusal() {
        Doorledger x = shop();
        x.revoke(0);
        x.addDoor();
        x.open(2, 0);
        x.meetDoor(0, 2);
        x.meetCloud(0);
        return x.isBreach(0);
    }

    private static void breachesOfTheFuture() {
        Doorledger x = fresh();
        x.addDoor();
        x.addDoor();
        x.addPhone();
        x.setRate(0, 500);
        x.setRate(1, -500);
        x.pass(100);
        x.addKey(3, 0, 1000);
        x.meetCloud(0);
        due("clock(0)", x.clock(0), 150);
        due("clock(1)", x.clock(1), 50);
        x.meetDoor(0, 0);
        x.meetDoor(0, 1);
        x.pass(20);
        due("open(0, 0) at 130", x.open(0, 0), 'o');
        due("open(1, 0) at 110", x.open(1, 0), 'o');
        x.meetDoor(0, 0);
        x.meetDoor(0, 1);
        x.meetCloud(0);
        due("isBreach(0) by the present list", x.isBreach(0), false);
        x.setDoors(0, 0);
        due("isBreach(0), changed at 120", x.isBreach(0), true);
        due("isBreach(1), an older minute", x.isBreach(1), false);
        x.setDoors(0, 3);
        due("isBreach(0), changed back at 120", x.isBreach(0), false);
        x.pass(10);
        x.setTimes(0, 131, 1000);
        due("isBreach(0), changed at 130", x.isBreach(0), true);
        x.setTimes(0, 130, 1000);
        due("isBreach(0), changed back at 130", x.isBreach(0), false);
        x.pass(1);
        x.revoke(0);
        due("isBreach(0), changed at 131", x.isBreach(0), false);
    }

    private static void breachesOfThePast() {
        Doorledger x = fresh();
        x.addKey(1, 0, 1000);
        x.addDoor();
        x.addPhone();
        x.setRate(0, -500);
        x.pass(100);
        x.setTimes(0, 0, 1000);
        x.pass(1);
        x.revoke(0);
        x.addKey(1, 0, 1000);
        x.pass(99);
        due("clock behind the cloud", x.clock(0), 100);
        x.open(0, 0);
        x.pass(2);
        x.open(0, 0);
        x.meetDoor(0, 0);
        x.meetCloud(0);
        due("minuteOf(0)", x.minuteOf(0), 100);
        due("minuteOf(1)", x.minuteOf(1), 101);
        due("isBreach(0), revoked after the minute that its clock showed", x.isBreach(0), false);
        due("isBreach(1), revoked in the minute that its clock showed", x.isBreach(1), true);
    }

    private static void delays() {
        Doorledger x = shop();
        x.open(0, 0);
        x.pass(5);
        x.open(0, 0);
        x.open(1, 0);
        x.meetDoor(0, 0);
        due("delays() ahead of any arrival", x.delays(), 0L);
        due("meanDelay() ahead", Checks.answerOf(x::meanDelay), "throws.ArithmeticException");
        x.pass(20);
        x.meetCloud(0);
        due("delays()", x.delays(), 45L);
        due("meanDelay()", x.meanDelay(), 22.5);
        due("meanBits()", x.meanBits(), Double.doubleToLongBits(22.5));
        x.pass(1000);
        due("delays() stay", x.delays(), 45L);
        x.meetDoor(0, 1);
        x.meetCloud(0);
        due("delays() of three", x.delays(), 1065L);
        due("meanDelay() of three", x.meanDelay(), 355.0);
        x.open(1, 0);
        x.meetDoor(0, 1);
        x.pass(1);
        x.meetCloud(0);
        due("meanDelay() of four", x.meanDelay(), 266.5);
        due("meanBits() of four", x.meanBits(), Double.doubleToLongBits(266.5));
        thirds();
        checks.refused("meanDelay() without audits", PromisesTest::shop, Doorledger::meanDelay, ARITHMETIC);
        checks.refused("meanBits() without audits", PromisesTest::shop, Doorledger::meanBits, ARITHMETIC);
        checks.refused("meanDelay() without arrivals", () -> withAudits(3), Doorledger::meanDelay, ARITHMETIC);
        checks.refused("meanBits() without arrivals", () -> withAudits(3), Doorledger::meanBits, ARITHMETIC);
    }

    /** Means below 1 and with endless fractions, down to the least that there can be, and the greatest. */
    private static void thirds() {
        for (int audits = 1; audits <= 60; audits++) {
            Doorledger x = withAudits(audits - 1);
            x.meetDoor(0, 0);
            x.meetCloud(0);
            if (audits > 1) {
                due("meanBits() of 0", x.meanBits(), 0L);
            }
            x.open(0, 0);
            x.meetDoor(0, 0);
            x.pass(1);
            x.meetCloud(0);
            due("meanDelay() of 1/" + audits, x.meanDelay(), 1.0 / audits);
            due("meanBits() of 1/" + audits, x.meanBits(), Double.doubleToLongBits(1.0 / audits));
        }
        Doorledger x = fresh();
        x.addKey(1, 0, 1);
        x.addDoor();
        x.addPhone();
        x.open(0, 0);
        x.open(0, 0);
        x.meetDoor(0, 0);
        for (int i = 0; i < 10; i++) {
            x.pass(10000);
        }
        x.meetCloud(0);
        due("delays(), the greatest", x.delays(), 200000L);
        due("meanBits(), the greatest", x.meanBits(), Double.doubleToLongBits(100000.0));
    }

    private static void shares() {
        Doorledger x = shop();
        x.open(0, 0);
        due("arrivedShare() of none", x.arrivedShare(), 0.0f);
        x.open(1, 0);
        x.meetDoor(0, 0);
        due("arrivedShare() of carried ones", x.arrivedShare(), 0.0f);
        x.meetCloud(0);
        due("arrivedShare() of one in two", x.arrivedShare(), 0.5f);
        x.open(1, 0);
        due("arrivedShare() of one in three", x.arrivedShare(), 1.0f / 3.0f);
        x.meetDoor(0, 1);
        x.meetCloud(0);
        due("arrivedShare() of all", x.arrivedShare(), 1.0f);
        checks.refused("arrivedShare() without audits", PromisesTest::shop, Doorledger::arrivedShare, ARITHMETIC);
    }

    private static void sound() {
        due("isSound() of a new one", fresh().isSound(), true);
        due("isSound() of a busy one", busy().isSound(), true);
        Doorledger x = busy();
        x.meetCloud(0);
        due("isSound() when a phone has the present list", x.isSound(), true);
        x.meetDoor(0, 0);
        due("isSound() when a door has the present list", x.isSound(), true);
        due("isSound() with 60 audits", withAudits(60).isSound(), true);
        due("isSound() with 50 changes", withChanges(50).isSound(), true);
        due("isSound() with 8 keys", withKeys(8).isSound(), true);
    }
}
