import java.util.Random;

/** Random runs of 512 calls, the same in each session, against the plain model. */
public final class ModelTest {
    private static final int RUNS = 1500;
    private static final int CALLS = 512;
    private static final int[] EDGES = {-1, 0, 1, 2, 3, 5, 8, 31, 32, 60, 500, 501, -500, -501,
        10001, 99999, 100000, 100001, Integer.MIN_VALUE, Integer.MAX_VALUE};

    private final Checks checks;
    private final int run;
    private final Random random;
    /** The longest that this run passes at once: short ones meet many changes in a minute, long ones the end of time. */
    private final int longest;
    private final Doorledger x = new Doorledger();
    private final PlainModel m = new PlainModel();
    private int doors = 0;
    private int phones = 0;
    private int keys = 0;
    private int call = 0;

    private ModelTest(Checks checks, int run) {
        this.checks = checks;
        this.run = run;
        this.random = new Random(run);
        this.longest = new int[] {1, 5, 40, 1000, 10000}[random.nextInt(5)];
    }

    public static void main(String[] args) {
        Checks checks = new Checks();
        for (int run = 0; run < RUNS; run++) {
            ModelTest one = new ModelTest(checks, run);
            while (one.call < CALLS) {
                one.step();
            }
        }
        checks.end();
    }

    private void step() {
        int part = random.nextInt(100);
        if (call < 12 ? part < 80 : part < 3) {
            add();
        } else if (part < 10) {
            change();
        } else if (part < 50) {
            happen();
        } else if (part < 70) {
            askDoor();
        } else if (part < 90) {
            askAudit();
        } else {
            askAll();
        }
    }

    private void same(String name, Checks.Call got, Checks.Call want) {
        checks.due("run " + run + ", call " + call + ": " + name, Checks.answerOf(got), Checks.answerOf(want));
        call++;
    }

    /** Mostly one of those that there are. */
    private int one(int of) {
        return random.nextInt(50) == 0 || of == 0 ? EDGES[random.nextInt(EDGES.length)] : random.nextInt(of);
    }

    private int within(int from, int to) {
        return random.nextInt(50) == 0 ? EDGES[random.nextInt(EDGES.length)] : from + random.nextInt(to - from + 1);
    }

    private int doorSet() {
        return random.nextBoolean() ? 31 : within(0, 31);
    }

    private int start() {
        int near = m.time() + random.nextInt(6 * longest + 1) - 5 * longest;
        return random.nextInt(20) == 0 ? within(0, 100000) : Math.max(0, Math.min(99999, near));
    }

    private int endAfter(int start) {
        int length = random.nextInt(3) == 0 ? random.nextInt(3) : random.nextInt(20 * longest) + 1;
        return random.nextInt(20) == 0 ? within(0, 100000) : (int) Math.min(100000L, (long) start + length);
    }

    private void add() {
        int set = doorSet();
        int from = start();
        int to = endAfter(from);
        switch (random.nextInt(4)) {
            case 0 -> same("addDoor", x::addDoor, m::addDoor);
            case 1 -> same("addPhone", x::addPhone, m::addPhone);
            default -> same("addKey", () -> x.addKey(set, from, to), () -> m.addKey(set, from, to));
        }
        doors = m.doors();
        phones = m.phones();
        keys = m.keys();
    }

    private void change() {
        int key = one(keys);
        int set = doorSet();
        int from = start();
        int to = endAfter(from);
        switch (random.nextInt(7)) {
            case 0 -> same("revoke", () -> x.revoke(key), () -> m.revoke(key));
            case 1, 2, 3 -> same("setTimes", () -> x.setTimes(key, from, to), () -> m.setTimes(key, from, to));
            default -> same("setDoors", () -> x.setDoors(key, set), () -> m.setDoors(key, set));
        }
    }

    private void happen() {
        int phone = one(phones);
        int door = one(doors);
        int key = one(keys);
        int minutes = within(1, longest);
        int thousandths = within(-500, 500);
        switch (random.nextInt(14)) {
            case 0, 1, 2 -> same("pass", () -> x.pass(minutes), () -> m.pass(minutes));
            case 3, 4, 5 -> same("meetCloud", () -> x.meetCloud(phone), () -> m.meetCloud(phone));
            case 6, 7, 8 -> same("meetDoor", () -> x.meetDoor(phone, door), () -> m.meetDoor(phone, door));
            case 9 -> same("setRate", () -> x.setRate(door, thousandths), () -> m.setRate(door, thousandths));
            default -> same("open", () -> x.open(door, key), () -> m.open(door, key));
        }
    }

    private void askDoor() {
        int door = one(doors);
        int key = one(keys);
        int phone = one(phones);
        switch (random.nextInt(11)) {
            case 0 -> same("clock", () -> x.clock(door), () -> m.clock(door));
            case 1 -> same("drifted", () -> x.drifted(door), () -> m.drifted(door));
            case 2 -> same("driftedBits", () -> x.driftedBits(door), () -> m.driftedBits(door));
            case 3 -> same("versionOf", () -> x.versionOf(door), () -> m.versionOf(door));
            case 4 -> same("versionByReplay", () -> x.versionByReplay(door), () -> m.versionOf(door));
            case 5 -> same("fromIn", () -> x.fromIn(door, key), () -> m.fromIn(door, key));
            case 6 -> same("waiting", () -> x.waiting(door), () -> m.waiting(door));
            case 7 -> same("breachesAt", () -> x.breachesAt(door), () -> m.breachesAt(door));
            case 8 -> same("versionOn", () -> x.versionOn(phone), () -> m.versionOn(phone));
            case 9 -> same("carried", () -> x.carried(phone), () -> m.carried(phone));
            default -> same("answer", () -> x.answer(door, key), () -> m.answer(door, key));
        }
    }

    private void askAudit() {
        int audit = one(m.audits());
        switch (random.nextInt(7)) {
            case 0 -> same("letterOf", () -> x.letterOf(audit), () -> m.letterOf(audit));
            case 1 -> same("letterByList", () -> x.letterByList(audit), () -> m.letterOf(audit));
            case 2 -> same("minuteOf", () -> x.minuteOf(audit), () -> m.minuteOf(audit));
            case 3 -> same("versionAt", () -> x.versionAt(audit), () -> m.versionAt(audit));
            case 4 -> same("hasArrived", () -> x.hasArrived(audit), () -> m.hasArrived(audit));
            default -> same("isBreach", () -> x.isBreach(audit), () -> m.isBreach(audit));
        }
    }

    private void askAll() {
        switch (random.nextInt(9)) {
            case 0 -> same("version", x::version, m::version);
            case 1 -> same("time", x::time, m::time);
            case 2 -> same("audits", x::audits, m::audits);
            case 3 -> same("delays", x::delays, m::delays);
            case 4 -> same("meanDelay", x::meanDelay, m::meanDelay);
            case 5 -> same("meanBits", x::meanBits, m::meanBits);
            case 6 -> same("arrivedShare", x::arrivedShare, m::arrivedShare);
            case 7 -> same("isSound", x::isSound, () -> true);
            default -> same("breaches", x::breaches, m::breaches);
        }
    }
}
