import java.util.ArrayList;
import java.util.Arrays;
import java.util.NoSuchElementException;

/** The ledger of a maker of locks. README.md says how to use it, ../shared/DOC.md what each call promises. */
public final class Doorledger {
    private static final int MOST_KEYS = 8;
    private static final int MOST_CHANGES = 50;
    private static final int MOST_DOORS = 5;
    private static final int MOST_PHONES = 3;
    private static final int MOST_AUDITS = 60;
    /** An object answers at most 512 calls, so no run that counts has more meetings. */
    private static final int MOST_MEETINGS = 512;

    private static final int ALL_DOORS = 31;
    private static final int LAST_MINUTE = 100000;
    private static final int LONGEST_PASS = 10000;
    private static final int MOST_THOUSANDTHS = 500;

    private final Cloud cloud = new Cloud();
    private final ArrayList<Door> doors = new ArrayList<>();
    private final ArrayList<Phone> phones = new ArrayList<>();
    private final ArrayList<Audit> audits = new ArrayList<>();
    private final Meetings meetings = new Meetings();
    private int now = 0;

    public Doorledger() {
    }

    public int addKey(int doors, int from, int to) throws IllegalArgumentException, IllegalStateException {
        checkDoorSet(doors);
        checkTimes(from, to);
        if (cloud.keys >= MOST_KEYS) {
            throw new IllegalStateException("there are 8 keys");
        }
        checkRoomForChange();
        int key = cloud.keys;
        cloud.keys++;
        cloud.keep(new KeyState(key, doors, from, to, false, now));
        return key;
    }

    public int setTimes(int key, int from, int to)
            throws NoSuchElementException, IllegalArgumentException, IllegalStateException {
        KeyState state = presentKey(key);
        checkTimes(from, to);
        checkNotRevoked(state);
        checkRoomForChange();
        return cloud.keep(new KeyState(key, state.doors, from, to, false, now));
    }

    public int setDoors(int key, int doors)
            throws NoSuchElementException, IllegalArgumentException, IllegalStateException {
        KeyState state = presentKey(key);
        checkDoorSet(doors);
        checkNotRevoked(state);
        checkRoomForChange();
        return cloud.keep(new KeyState(key, doors, state.from, state.to, false, now));
    }

    public int revoke(int key) throws NoSuchElementException, IllegalStateException {
        KeyState state = presentKey(key);
        checkNotRevoked(state);
        checkRoomForChange();
        return cloud.keep(new KeyState(key, state.doors, state.from, state.to, true, now));
    }

    public int version() {
        return cloud.newest();
    }

    public int addDoor() throws IllegalStateException {
        if (doors.size() >= MOST_DOORS) {
            throw new IllegalStateException("there are 5 doors");
        }
        doors.add(new Door(cloud.newest(), now));
        return doors.size() - 1;
    }

    public int setRate(int door, int thousandths) throws IndexOutOfBoundsException, IllegalArgumentException {
        Door changed = doorOf(door);
        if (thousandths < -MOST_THOUSANDTHS || thousandths > MOST_THOUSANDTHS) {
            throw new IllegalArgumentException("the thousandths are not in -500 to 500");
        }
        int minute = changed.minuteAt(now);
        changed.setClock(now, minute);
        changed.rate = 1.0f + (float) thousandths / 1000.0f;
        return minute;
    }

    public int addPhone() throws IllegalStateException {
        if (phones.size() >= MOST_PHONES) {
            throw new IllegalStateException("there are 3 phones");
        }
        phones.add(new Phone());
        return phones.size() - 1;
    }

    public int pass(int minutes) throws IllegalArgumentException {
        if (minutes < 1 || minutes > LONGEST_PASS) {
            throw new IllegalArgumentException("the minutes are not in 1 to 10000");
        }
        if (minutes > LAST_MINUTE - now) {
            throw new IllegalArgumentException("the time would be greater than 100000");
        }
        now += minutes;
        return now;
    }

    public int time() {
        return now;
    }

    public int meetCloud(int phone) throws IndexOutOfBoundsException {
        Phone met = phoneOf(phone);
        met.version = cloud.newest();
        meetings.keep(new Meeting(phone, Meeting.WITH_CLOUD, cloud.newest()));
        int arriving = 0;
        for (int i = 0; i < audits.size(); i++) {
            Audit audit = audits.get(i);
            if (audit.isCarriedBy(phone)) {
                audit.arrivedAt = now;
                arriving++;
            }
        }
        return arriving;
    }

    public int meetDoor(int phone, int door) throws IndexOutOfBoundsException {
        Phone met = phoneOf(phone);
        Door at = doorOf(door);
        at.version = Math.max(at.version, met.version);
        at.setClock(now, now);
        meetings.keep(new Meeting(phone, door, cloud.newest()));
        int taken = 0;
        for (int i = 0; i < audits.size(); i++) {
            Audit audit = audits.get(i);
            if (audit.isWaitingAt(door)) {
                audit.taker = phone;
                taken++;
            }
        }
        return taken;
    }

    public char open(int door, int key)
            throws IndexOutOfBoundsException, NoSuchElementException, IllegalStateException {
        Door tried = doorOf(door);
        presentKey(key);
        if (audits.size() >= MOST_AUDITS) {
            throw new IllegalStateException("there are 60 audits");
        }
        int minute = tried.minuteAt(now);
        char letter = cloud.letterIn(tried.version, key, door, minute);
        audits.add(new Audit(door, key, minute, letter, tried.version, now));
        return letter;
    }

    public char answer(int door, int key) throws IndexOutOfBoundsException, NoSuchElementException {
        Door asked = doorOf(door);
        presentKey(key);
        return cloud.letterIn(asked.version, key, door, asked.minuteAt(now));
    }

    public int clock(int door) throws IndexOutOfBoundsException {
        return doorOf(door).minuteAt(now);
    }

    public float drifted(int door) throws IndexOutOfBoundsException {
        return doorOf(door).driftAt(now);
    }

    public int driftedBits(int door) throws IndexOutOfBoundsException {
        return Bits.ofFloat(doorOf(door).driftAt(now));
    }

    public int versionOf(int door) throws IndexOutOfBoundsException {
        return doorOf(door).version;
    }

    public int versionByReplay(int door) throws IndexOutOfBoundsException {
        return meetings.replay(door, doorOf(door).firstVersion);
    }

    public int versionOn(int phone) throws IndexOutOfBoundsException {
        return phoneOf(phone).version;
    }

    public int fromIn(int door, int key) throws IndexOutOfBoundsException, NoSuchElementException {
        KeyState state = cloud.keyIn(doorOf(door).version, key);
        if (state == null) {
            throw new NoSuchElementException("the list of the door does not have the key");
        }
        return state.from;
    }

    public int waiting(int door) throws IndexOutOfBoundsException {
        doorOf(door);
        int waiting = 0;
        for (int i = 0; i < audits.size(); i++) {
            if (audits.get(i).isWaitingAt(door)) {
                waiting++;
            }
        }
        return waiting;
    }

    public int carried(int phone) throws IndexOutOfBoundsException {
        phoneOf(phone);
        int carried = 0;
        for (int i = 0; i < audits.size(); i++) {
            if (audits.get(i).isCarriedBy(phone)) {
                carried++;
            }
        }
        return carried;
    }

    public int audits() {
        return audits.size();
    }

    public char letterOf(int audit) throws NoSuchElementException {
        return auditOf(audit).letter;
    }

    public char letterByList(int audit) throws NoSuchElementException {
        return letterAgain(auditOf(audit));
    }

    public int minuteOf(int audit) throws NoSuchElementException {
        return auditOf(audit).minute;
    }

    public int versionAt(int audit) throws NoSuchElementException {
        return auditOf(audit).version;
    }

    public boolean hasArrived(int audit) throws NoSuchElementException {
        return auditOf(audit).isInCloud();
    }

    public boolean isBreach(int audit) throws NoSuchElementException {
        return isToldAsBreach(auditOf(audit));
    }

    public int breaches() {
        int told = 0;
        for (int i = 0; i < audits.size(); i++) {
            if (isToldAsBreach(audits.get(i))) {
                told++;
            }
        }
        return told;
    }

    public int breachesAt(int door) throws IndexOutOfBoundsException {
        doorOf(door);
        int told = 0;
        for (int i = 0; i < audits.size(); i++) {
            Audit audit = audits.get(i);
            if (audit.door == door && isToldAsBreach(audit)) {
                told++;
            }
        }
        return told;
    }

    public long delays() {
        long sum = 0;
        for (int i = 0; i < audits.size(); i++) {
            Audit audit = audits.get(i);
            if (audit.isInCloud()) {
                sum += audit.arrivedAt - audit.time;
            }
        }
        return sum;
    }

    public double meanDelay() throws ArithmeticException {
        return meanOfDelays();
    }

    public long meanBits() throws ArithmeticException {
        return Bits.ofDouble(meanOfDelays());
    }

    public float arrivedShare() throws ArithmeticException {
        int all = audits.size();
        if (all == 0) {
            throw new ArithmeticException("there are no audits");
        }
        return (float) arrivedCount() / (float) all;
    }

    public boolean isSound() {
        return areDoorsSound() && arePhonesSound() && areAuditsSound();
    }

    private static void checkDoorSet(int doors) {
        if (doors < 0 || doors > ALL_DOORS) {
            throw new IllegalArgumentException("the set of doors is not in 0 to 31");
        }
    }

    private static void checkTimes(int from, int to) {
        if (from < 0 || to <= from || to > LAST_MINUTE) {
            throw new IllegalArgumentException("the times are not in 0 to 100000, or end before they begin");
        }
    }

    private static void checkNotRevoked(KeyState state) {
        if (state.revoked) {
            throw new IllegalStateException("the key is revoked");
        }
    }

    private void checkRoomForChange() {
        if (cloud.newest() >= MOST_CHANGES) {
            throw new IllegalStateException("50 changes were made");
        }
    }

    private KeyState presentKey(int key) {
        KeyState state = cloud.keyIn(cloud.newest(), key);
        if (state == null) {
            throw new NoSuchElementException("no such key");
        }
        return state;
    }

    private Door doorOf(int door) {
        if (door < 0 || door >= doors.size()) {
            throw new IndexOutOfBoundsException("no such door");
        }
        return doors.get(door);
    }

    private Phone phoneOf(int phone) {
        if (phone < 0 || phone >= phones.size()) {
            throw new IndexOutOfBoundsException("no such phone");
        }
        return phones.get(phone);
    }

    private Audit auditOf(int audit) {
        if (audit < 0 || audit >= audits.size()) {
            throw new NoSuchElementException("no such audit");
        }
        return audits.get(audit);
    }

    private char letterAgain(Audit audit) {
        return cloud.letterIn(audit.version, audit.key, audit.door, audit.minute);
    }

    private boolean isToldAsBreach(Audit audit) {
        if (!audit.isInCloud() || audit.letter != KeyState.OPENS) {
            return false;
        }
        int versionThen = cloud.newestAt(audit.minute);
        return cloud.letterIn(versionThen, audit.key, audit.door, audit.minute) != KeyState.OPENS;
    }

    private int arrivedCount() {
        int arrived = 0;
        for (int i = 0; i < audits.size(); i++) {
            if (audits.get(i).isInCloud()) {
                arrived++;
            }
        }
        return arrived;
    }

    private double meanOfDelays() {
        int arrived = arrivedCount();
        if (arrived == 0) {
            throw new ArithmeticException("no audit has arrived");
        }
        return (double) delays() / (double) arrived;
    }

    private boolean areDoorsSound() {
        for (int i = 0; i < doors.size(); i++) {
            Door door = doors.get(i);
            if (door.version > cloud.newest() || door.version != meetings.replay(i, door.firstVersion)) {
                return false;
            }
        }
        return true;
    }

    private boolean arePhonesSound() {
        for (int i = 0; i < phones.size(); i++) {
            if (phones.get(i).version > cloud.newest()) {
                return false;
            }
        }
        return true;
    }

    private boolean areAuditsSound() {
        for (int i = 0; i < audits.size(); i++) {
            Audit audit = audits.get(i);
            if (audit.letter != letterAgain(audit)) {
                return false;
            }
        }
        return true;
    }

    /** The lists of all versions. A change touches one key only, so a version is kept as that key alone. */
    private static final class Cloud {
        private final ArrayList<KeyState> changes = new ArrayList<>();
        private int keys = 0;

        int newest() {
            return changes.size();
        }

        int newestAt(int minute) {
            int version = changes.size();
            while (version > 0 && changes.get(version - 1).madeAt > minute) {
                version--;
            }
            return version;
        }

        int keep(KeyState state) {
            changes.add(state);
            return changes.size();
        }

        /** Null if the list of the version does not have the key. */
        KeyState keyIn(int version, int key) {
            for (int made = Math.min(version, changes.size()); made > 0; made--) {
                KeyState state = changes.get(made - 1);
                if (state.key == key) {
                    return state;
                }
            }
            return null;
        }

        char letterIn(int version, int key, int door, int minute) {
            KeyState state = keyIn(version, key);
            return state == null ? KeyState.UNKNOWN : state.letterAt(door, minute);
        }
    }

    /** A key as a change left it. */
    private static final class KeyState {
        static final char UNKNOWN = 'u';
        static final char REVOKED = 'r';
        static final char OTHER_DOOR = 'd';
        static final char EARLY = 'e';
        static final char LATE = 'l';
        static final char OPENS = 'o';

        private final int key;
        private final int doors;
        private final int from;
        private final int to;
        private final boolean revoked;
        private final int madeAt;

        KeyState(int key, int doors, int from, int to, boolean revoked, int madeAt) {
            this.key = key;
            this.doors = doors;
            this.from = from;
            this.to = to;
            this.revoked = revoked;
            this.madeAt = madeAt;
        }

        char letterAt(int door, int minute) {
            if (revoked) {
                return REVOKED;
            }
            if (((doors >> door) & 1) == 0) {
                return OTHER_DOOR;
            }
            if (minute < from) {
                return EARLY;
            }
            return minute >= to ? LATE : OPENS;
        }
    }

    private static final class Door {
        private final int firstVersion;
        private int version;
        private float rate = 1.0f;
        private int setAt;
        private int setTo;

        Door(int version, int time) {
            this.firstVersion = version;
            this.version = version;
            this.setAt = time;
            this.setTo = time;
        }

        float driftAt(int time) {
            return (float) (time - setAt) * rate;
        }

        int minuteAt(int time) {
            return setTo + (int) driftAt(time);
        }

        void setClock(int time, int minute) {
            setAt = time;
            setTo = minute;
        }
    }

    private static final class Phone {
        private int version = 0;
    }

    private static final class Audit {
        private static final int NOBODY = -1;
        private static final int NOT_YET = -1;

        private final int door;
        private final int key;
        private final int minute;
        private final char letter;
        private final int version;
        private final int time;
        private int taker = NOBODY;
        private int arrivedAt = NOT_YET;

        Audit(int door, int key, int minute, char letter, int version, int time) {
            this.door = door;
            this.key = key;
            this.minute = minute;
            this.letter = letter;
            this.version = version;
            this.time = time;
        }

        boolean isWaitingAt(int asked) {
            return door == asked && taker == NOBODY;
        }

        boolean isCarriedBy(int phone) {
            return taker == phone && arrivedAt == NOT_YET;
        }

        boolean isInCloud() {
            return arrivedAt != NOT_YET;
        }
    }

    private static final class Meeting {
        static final int WITH_CLOUD = -1;

        private final int phone;
        private final int door;
        private final int cloudVersion;

        Meeting(int phone, int door, int cloudVersion) {
            this.phone = phone;
            this.door = door;
            this.cloudVersion = cloudVersion;
        }
    }

    /** All meetings in their order, so that they can be played again. */
    private static final class Meetings {
        private final ArrayList<Meeting> kept = new ArrayList<>();
        /** Made once and used by every replay, so that asking makes no objects. */
        private final int[] onPhones = new int[MOST_PHONES];

        void keep(Meeting meeting) {
            if (kept.size() < MOST_MEETINGS) {
                kept.add(meeting);
            }
        }

        int replay(int door, int firstVersion) {
            Arrays.fill(onPhones, 0);
            int version = firstVersion;
            for (int i = 0; i < kept.size(); i++) {
                Meeting meeting = kept.get(i);
                int phone = meeting.phone;
                if (phone < 0 || phone >= onPhones.length) {
                    continue;
                }
                if (meeting.door == Meeting.WITH_CLOUD) {
                    onPhones[phone] = meeting.cloudVersion;
                } else if (meeting.door == door) {
                    version = Math.max(version, onPhones[phone]);
                }
            }
            return version;
        }
    }

    /** The bits of numbers from 0 up, worked out by arithmetic because LANGUAGE.md leaves out floatToIntBits. */
    private static final class Bits {
        /** Far above what drifted minutes and means of delays need: they are 0 or lie between 1/60 and 150000. */
        private static final int MOST_STEPS = 64;

        static long ofDouble(double value) {
            if (value <= 0.0) {
                return 0L;
            }
            double scaled = value;
            int exponent = 0;
            while (scaled >= 2.0 && exponent < MOST_STEPS) {
                scaled = scaled / 2.0;
                exponent++;
            }
            while (scaled < 1.0 && exponent > -MOST_STEPS) {
                scaled = scaled * 2.0;
                exponent--;
            }
            long fraction = (long) ((scaled - 1.0) * 4503599627370496.0);
            return ((long) (exponent + 1023) << 52) + fraction;
        }

        static int ofFloat(float value) {
            if (value <= 0.0f) {
                return 0;
            }
            // A float is a double whose last 29 bits are 0, so the double's bits have all that is needed.
            long wide = ofDouble((double) value);
            int exponent = (int) (wide >> 52) - 1023;
            int fraction = (int) (wide >> 29) & 0x7FFFFF;
            return ((exponent + 127) << 23) + fraction;
        }
    }
}
