import java.util.ArrayList;
import java.util.List;
import java.util.NoSuchElementException;

/** The document's words once more, in the plainest Java: whole lists copied for each version, sets of audits. */
final class PlainModel {
    record Key(int doors, int from, int to, boolean revoked) { }

    record Audit(int door, int key, int minute, char letter, int version, int time) { }

    private final List<List<Key>> lists = new ArrayList<>(List.of(List.of()));
    private final List<Integer> madeAt = new ArrayList<>(List.of(0));
    private final List<float[]> rates = new ArrayList<>();
    private final List<int[]> clocks = new ArrayList<>();
    private final List<Integer> doorLists = new ArrayList<>();
    private final List<Integer> phoneLists = new ArrayList<>();
    private final List<Audit> audits = new ArrayList<>();
    private final List<List<Integer>> atDoors = new ArrayList<>();
    private final List<List<Integer>> onPhones = new ArrayList<>();
    private final int[] arrivals = new int[60];
    private int time = 0;

    PlainModel() {
        java.util.Arrays.fill(arrivals, -1);
    }

    int doors() {
        return doorLists.size();
    }

    int phones() {
        return phoneLists.size();
    }

    int keys() {
        return present().size();
    }

    private static void need(boolean holds, RuntimeException otherwise) {
        if (!holds) {
            throw otherwise;
        }
    }

    private void needDoor(int door) {
        need(door >= 0 && door < doorLists.size(), new IndexOutOfBoundsException());
    }

    private void needPhone(int phone) {
        need(phone >= 0 && phone < phoneLists.size(), new IndexOutOfBoundsException());
    }

    private void needKey(int key) {
        need(key >= 0 && key < present().size(), new NoSuchElementException());
    }

    private void needAudit(int audit) {
        need(audit >= 0 && audit < audits.size(), new NoSuchElementException());
    }

    private static void needSet(int doors) {
        need(doors >= 0 && doors <= 31, new IllegalArgumentException());
    }

    private static void needTimes(int from, int to) {
        need(from >= 0 && from <= 99999, new IllegalArgumentException());
        need(to > from && to <= 100000, new IllegalArgumentException());
    }

    private List<Key> present() {
        return lists.get(lists.size() - 1);
    }

    private int change(int key, Key state) {
        need(version() < 50, new IllegalStateException());
        List<Key> next = new ArrayList<>(present());
        if (key == next.size()) {
            next.add(state);
        } else {
            next.set(key, state);
        }
        lists.add(next);
        madeAt.add(time);
        return version();
    }

    int addKey(int doors, int from, int to) {
        needSet(doors);
        needTimes(from, to);
        int key = present().size();
        need(key < 8, new IllegalStateException());
        change(key, new Key(doors, from, to, false));
        return key;
    }

    int setTimes(int key, int from, int to) {
        needKey(key);
        needTimes(from, to);
        Key was = present().get(key);
        need(!was.revoked, new IllegalStateException());
        return change(key, new Key(was.doors, from, to, false));
    }

    int setDoors(int key, int doors) {
        needKey(key);
        needSet(doors);
        Key was = present().get(key);
        need(!was.revoked, new IllegalStateException());
        return change(key, new Key(doors, was.from, was.to, false));
    }

    int revoke(int key) {
        needKey(key);
        Key was = present().get(key);
        need(!was.revoked, new IllegalStateException());
        return change(key, new Key(was.doors, was.from, was.to, true));
    }

    int version() {
        return lists.size() - 1;
    }

    int addDoor() {
        need(doorLists.size() < 5, new IllegalStateException());
        doorLists.add(version());
        rates.add(new float[] {1.0f});
        clocks.add(new int[] {time, time});
        atDoors.add(new ArrayList<>());
        return doorLists.size() - 1;
    }

    int setRate(int door, int thousandths) {
        needDoor(door);
        need(Math.abs((long) thousandths) <= 500, new IllegalArgumentException());
        int shown = clock(door);
        clocks.set(door, new int[] {time, shown});
        rates.get(door)[0] = 1.0f + ((float) thousandths) / 1000.0f;
        return clock(door);
    }

    int addPhone() {
        need(phoneLists.size() < 3, new IllegalStateException());
        phoneLists.add(0);
        onPhones.add(new ArrayList<>());
        return phoneLists.size() - 1;
    }

    int pass(int minutes) {
        need(minutes >= 1 && minutes <= 10000 && time + minutes <= 100000, new IllegalArgumentException());
        return time += minutes;
    }

    int time() {
        return time;
    }

    int meetCloud(int phone) {
        needPhone(phone);
        phoneLists.set(phone, version());
        List<Integer> carried = onPhones.set(phone, new ArrayList<>());
        for (int audit : carried) {
            arrivals[audit] = time;
        }
        return carried.size();
    }

    int meetDoor(int phone, int door) {
        needPhone(phone);
        needDoor(door);
        if (phoneLists.get(phone) > doorLists.get(door)) {
            doorLists.set(door, phoneLists.get(phone));
        }
        clocks.set(door, new int[] {time, time});
        List<Integer> taken = atDoors.set(door, new ArrayList<>());
        onPhones.get(phone).addAll(taken);
        return taken.size();
    }

    private static char letter(List<Key> list, int key, int door, int minute) {
        if (key >= list.size()) {
            return 'u';
        }
        Key state = list.get(key);
        boolean inSet = state.doors / (int) Math.pow(2, door) % 2 == 1;
        return state.revoked ? 'r' : !inSet ? 'd' : minute < state.from ? 'e' : minute < state.to ? 'o' : 'l';
    }

    char open(int door, int key) {
        char letter = answer(door, key);
        need(audits.size() < 60, new IllegalStateException());
        atDoors.get(door).add(audits.size());
        audits.add(new Audit(door, key, clock(door), letter, doorLists.get(door), time));
        return letter;
    }

    char answer(int door, int key) {
        needDoor(door);
        needKey(key);
        return letter(lists.get(doorLists.get(door)), key, door, clock(door));
    }

    int clock(int door) {
        return (int) drifted(door) + clocks.get(door)[1];
    }

    float drifted(int door) {
        needDoor(door);
        float minutes = time - clocks.get(door)[0];
        return minutes * rates.get(door)[0];
    }

    int driftedBits(int door) {
        return Float.floatToIntBits(drifted(door));
    }

    int versionOf(int door) {
        needDoor(door);
        return doorLists.get(door);
    }

    int versionOn(int phone) {
        needPhone(phone);
        return phoneLists.get(phone);
    }

    int fromIn(int door, int key) {
        needDoor(door);
        List<Key> list = lists.get(doorLists.get(door));
        need(key >= 0 && key < list.size(), new NoSuchElementException());
        return list.get(key).from;
    }

    int waiting(int door) {
        needDoor(door);
        return atDoors.get(door).size();
    }

    int carried(int phone) {
        needPhone(phone);
        return onPhones.get(phone).size();
    }

    int audits() {
        return audits.size();
    }

    char letterOf(int audit) {
        needAudit(audit);
        return audits.get(audit).letter;
    }

    int minuteOf(int audit) {
        needAudit(audit);
        return audits.get(audit).minute;
    }

    int versionAt(int audit) {
        needAudit(audit);
        return audits.get(audit).version;
    }

    boolean hasArrived(int audit) {
        needAudit(audit);
        return arrivals[audit] >= 0;
    }

    boolean isBreach(int audit) {
        needAudit(audit);
        Audit it = audits.get(audit);
        List<Key> then = null;
        for (int version = 0; version < lists.size(); version++) {
            if (madeAt.get(version) <= it.minute) {
                then = lists.get(version);
            }
        }
        return hasArrived(audit) && it.letter == 'o' && letter(then, it.key, it.door, it.minute) != 'o';
    }

    int breaches() {
        int all = 0;
        for (int door = 0; door < doorLists.size(); door++) {
            all += breachesAt(door);
        }
        return all;
    }

    int breachesAt(int door) {
        needDoor(door);
        int all = 0;
        for (int audit = 0; audit < audits.size(); audit++) {
            all += audits.get(audit).door == door && isBreach(audit) ? 1 : 0;
        }
        return all;
    }

    private int arrived() {
        int all = 0;
        for (int audit = 0; audit < audits.size(); audit++) {
            all += hasArrived(audit) ? 1 : 0;
        }
        return all;
    }

    long delays() {
        long sum = 0;
        for (int audit = 0; audit < audits.size(); audit++) {
            sum += hasArrived(audit) ? arrivals[audit] - audits.get(audit).time : 0;
        }
        return sum;
    }

    double meanDelay() {
        need(arrived() > 0, new ArithmeticException());
        return (double) delays() / (double) arrived();
    }

    long meanBits() {
        return Double.doubleToLongBits(meanDelay());
    }

    float arrivedShare() {
        need(audits() > 0, new ArithmeticException());
        return (float) arrived() / (float) audits();
    }
}
