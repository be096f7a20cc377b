/** All that a ledger answers, as one text. */
final class Portrait {
    private Portrait() {
    }

    static String of(Doorledger x) {
        StringBuilder all = new StringBuilder();
        all.append("version ").append(x.version()).append(" time ").append(x.time());
        all.append(" audits ").append(x.audits()).append(" breaches ").append(x.breaches());
        all.append(" delays ").append(x.delays());
        all.append(" mean ").append(Checks.answerOf(x::meanDelay)).append(" ").append(Checks.answerOf(x::meanBits));
        all.append(" share ").append(Checks.answerOf(x::arrivedShare)).append(" sound ").append(x.isSound());
        for (int door = 0; door < 5; door++) {
            door(all, x, door);
        }
        for (int phone = 0; phone < 3; phone++) {
            int p = phone;
            all.append("\nphone ").append(Checks.answerOf(() -> x.versionOn(p)));
            all.append(" ").append(Checks.answerOf(() -> x.carried(p)));
        }
        for (int audit = 0; audit < x.audits(); audit++) {
            all.append("\naudit ").append(x.letterOf(audit)).append(x.minuteOf(audit)).append(" ");
            all.append(x.versionAt(audit)).append(x.hasArrived(audit)).append(x.isBreach(audit));
        }
        return all.toString();
    }

    private static void door(StringBuilder all, Doorledger x, int door) {
        String clock = Checks.answerOf(() -> x.clock(door));
        all.append("\ndoor ").append(clock);
        if (clock.startsWith("throws")) {
            return;
        }
        all.append(" ").append(Checks.answerOf(() -> x.drifted(door))).append(" ").append(x.driftedBits(door));
        all.append(" ").append(x.versionOf(door)).append(" ").append(x.versionByReplay(door));
        all.append(" ").append(x.waiting(door)).append(" ").append(x.breachesAt(door));
        for (int key = 0; key < 3; key++) {
            int k = key;
            all.append(" ").append(Checks.answerOf(() -> x.answer(door, k)));
            all.append(Checks.answerOf(() -> x.fromIn(door, k)));
        }
    }
}
