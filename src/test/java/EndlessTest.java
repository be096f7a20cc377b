import java.util.List;
import java.util.Random;

/** What calls behind the 512th answer is free, but they end, and throw nothing that the document does not name. */
public final class EndlessTest {
    private static final List<String> NAMED = List.of("throws.IllegalArgumentException", "throws.IllegalStateException",
        "throws.IndexOutOfBoundsException", "throws.NoSuchElementException", "throws.ArithmeticException");
    private static final int CALLS = 5000;

    public static void main(String[] args) {
        Checks checks = new Checks();
        for (int run = 0; run < 10; run++) {
            Random random = new Random(run);
            Doorledger x = new Doorledger();
            for (int call = 0; call < CALLS; call++) {
                String answer = Checks.answerOf(() -> any(x, random));
                checks.due("run " + run + ", call " + call + ": " + answer, answer.contains("throws") && !NAMED.contains(answer), false);
            }
        }
        checks.end();
    }

    private static Object any(Doorledger x, Random random) {
        int phone = random.nextInt(4) - 1;
        int door = random.nextInt(7) - 1;
        int key = random.nextInt(10) - 1;
        int audit = random.nextInt(62) - 1;
        return switch (random.nextInt(20)) {
            case 0 -> x.addKey(random.nextInt(34) - 1, 0, 1 + random.nextInt(1000));
            case 1 -> x.setTimes(key, 0, random.nextInt(1000));
            case 2 -> x.setDoors(key, random.nextInt(34) - 1);
            case 3 -> x.revoke(key);
            case 4 -> x.addDoor();
            case 5 -> x.addPhone();
            case 6 -> x.setRate(door, random.nextInt(1004) - 502);
            case 7 -> x.pass(random.nextInt(100));
            case 8, 9, 10 -> x.meetCloud(phone);
            case 11, 12, 13 -> x.meetDoor(phone, door);
            case 14 -> x.open(door, key);
            case 15 -> x.versionByReplay(door);
            case 16 -> x.letterByList(audit);
            case 17 -> x.isBreach(audit);
            case 18 -> x.meanBits();
            default -> x.driftedBits(door) + x.breaches() + (x.isSound() ? 1 : 0);
        };
    }
}
