import java.util.Random;

/** Random runs of 512 calls, the same in each session, against the plain model. */
public final class ModelTest {
    private static final int RUNS = 1500;
    private static final int CALLS = 512;
    private static final int KINDS = 38;
    private static final int[] EDGES = {-1, 0, 1, 5, 8, 32, 60, 501, -501, 100000, 100001, Integer.MIN_VALUE, Integer.MAX_VALUE};

    private final Checks checks;
    private final int run;
    private final Random random;
    private final int asking;
    private final int longest;
    private final Doorledger x = new Doorledger();
    private final PlainModel m = new PlainModel();

    private ModelTest(Checks checks, int run) {
        this.checks = checks;
        this.run = run;
        this.random = new Random(run);
        this.asking = random.nextInt(90);
        this.longest = new int[] {2, 20, 300, 10000}[random.nextInt(4)];
    }

    public static void main(String[] args) {
        Checks checks = new Checks();
        for (int run = 0; run < RUNS; run++) {
            ModelTest one = new ModelTest(checks, run);
            for (int call = 0; call < CALLS; call++) {
                one.step(call);
            }
        }
        checks.end();
    }

    private int pick(int from, int to) {
        if (random.nextInt(40) == 0) {
            return EDGES[random.nextInt(EDGES.length)];
        }
        return from + random.nextInt(to - from + 1);
    }

    private int minute() {
        int near = m.time() + random.nextInt(2 * longest + 1) - longest;
        return random.nextInt(4) == 0 ? pick(0, 100000) : Math.max(0, near);
    }

    private void same(int call, String name, Checks.Call got, Checks.Call want) {
        checks.due("run " + run + ", call " + call + ": " + name, Checks.answerOf(got), Checks.answerOf(want));
    }

    private void step(int call) {
        int kind = random.nextInt(100) < asking ? 10 + random.nextInt(KINDS - 10) : random.nextInt(14);
        if (kind < 6) {
            change(call, kind);
        } else if (kind < 14) {
            happen(call, kind);
        } else if (kind < 25) {
            askDoor(call, kind);
        } else {
            askAudit(call, kind);
        }
    }

    private void change(int call, int kind) {
        int key = pick(0, 3);
        int doors = pick(0, 31);
        int from = minute();
        int to = random.nextInt(10) == 0 ? from : minute() + longest;
        switch (random.nextInt(8) == 0 ? kind : 5) {
            case 0 -> same(call, "addKey", () -> x.addKey(doors, from, to), () -> m.addKey(doors, from, to));
            case 1 -> same(call, "setTimes", () -> x.setTimes(key, from, to), () -> m.setTimes(key, from, to));
            case 2 -> same(call, "setDoors", () -> x.setDoors(key, doors), () -> m.setDoors(key, doors));
            case 3 -> revoke(call, key);
            case 4 -> same(call, "addDoor", x::addDoor, m::addDoor);
            default -> open(call);
        }
    }

    private void revoke(int call, int key) {
        if (random.nextInt(3) == 0) {
            same(call, "revoke", () -> x.revoke(key), () -> m.revoke(key));
        } else {
            same(call, "addPhone", x::addPhone, m::addPhone);
        }
    }

    private void open(int call) {
        int door = pick(0, 2);
        int key = pick(0, 3);
        if (random.nextInt(3) == 0) {
            same(call, "open", () -> x.open(door, key), () -> m.open(door, key));
        } else {
            same(call, "answer", () -> x.answer(door, key), () -> m.answer(door, key));
        }
    }

    private void happen(int call, int kind) {
        int phone = pick(0, 1);
        int door = pick(0, 2);
        int thousandths = pick(-500, 500);
        int minutes = pick(1, longest);
        switch (kind) {
            case 6, 7 -> same(call, "pass", () -> x.pass(minutes), () -> m.pass(minutes));
            case 8 -> same(call, "meetCloud", () -> x.meetCloud(phone), () -> m.meetCloud(phone));
            case 9 -> same(call, "meetDoor", () -> x.meetDoor(phone, door), () -> m.meetDoor(phone, door));
            case 10 -> same(call, "time", x::time, m::time);
            case 11 -> same(call, "version", x::version, m::version);
            case 12 -> same(call, "isSound", x::isSound, () -> true);
            default -> same(call, "setRate", () -> x.setRate(door, thousandths), () -> m.setRate(door, thousandths));
        }
    }

    private void askDoor(int call, int kind) {
        int door = pick(0, 2);
        int key = pick(0, 3);
        int phone = pick(0, 1);
        switch (kind) {
            case 14 -> same(call, "clock", () -> x.clock(door), () -> m.clock(door));
            case 15 -> same(call, "drifted", () -> x.drifted(door), () -> m.drifted(door));
            case 16 -> same(call, "driftedBits", () -> x.driftedBits(door), () -> m.driftedBits(door));
            case 17 -> same(call, "versionOf", () -> x.versionOf(door), () -> m.versionOf(door));
            case 18 -> same(call, "versionByReplay", () -> x.versionByReplay(door), () -> m.versionOf(door));
            case 19 -> same(call, "fromIn", () -> x.fromIn(door, key), () -> m.fromIn(door, key));
            case 20 -> same(call, "waiting", () -> x.waiting(door), () -> m.waiting(door));
            case 21 -> same(call, "breachesAt", () -> x.breachesAt(door), () -> m.breachesAt(door));
            case 22 -> same(call, "versionOn", () -> x.versionOn(phone), () -> m.versionOn(phone));
            case 23 -> same(call, "carried", () -> x.carried(phone), () -> m.carried(phone));
            default -> same(call, "answer", () -> x.answer(door, key), () -> m.answer(door, key));
        }
    }

    private void askAudit(int call, int kind) {
        int audit = pick(0, Math.max(0, m.audits() - 1));
        switch (kind) {
            case 25 -> same(call, "audits", x::audits, m::audits);
            case 26 -> same(call, "letterOf", () -> x.letterOf(audit), () -> m.letterOf(audit));
            case 27 -> same(call, "letterByList", () -> x.letterByList(audit), () -> m.letterOf(audit));
            case 28 -> same(call, "minuteOf", () -> x.minuteOf(audit), () -> m.minuteOf(audit));
            case 29 -> same(call, "versionAt", () -> x.versionAt(audit), () -> m.versionAt(audit));
            case 30 -> same(call, "hasArrived", () -> x.hasArrived(audit), () -> m.hasArrived(audit));
            case 31 -> same(call, "isBreach", () -> x.isBreach(audit), () -> m.isBreach(audit));
            case 32 -> same(call, "breaches", x::breaches, m::breaches);
            case 33 -> same(call, "delays", x::delays, m::delays);
            case 34 -> same(call, "meanDelay", x::meanDelay, m::meanDelay);
            case 35 -> same(call, "meanBits", x::meanBits, m::meanBits);
            default -> same(call, "arrivedShare", x::arrivedShare, m::arrivedShare);
        }
    }
}
