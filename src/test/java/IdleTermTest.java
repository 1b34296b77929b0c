/** Terms, IDLE, and when a station begins: a test for each sentence, at 49 and 50, 52 and 53. */
public final class IdleTermTest {
    private static final int[] NEEDED_AT_FIRST = {50, 50, 53, 53};

    public static void main(String[] args) {
        isAsLongAsYouLikeAtFirst();
        isFiftyOrFiftyThreeAtFirst();
        isFiftyWhenSaidBefore();
        isFiftyThreeStillBehindAStop();
        countsFromTheLatestZero();
        mayBeLongOver();
        countsBeforeTheBitTimeOnly();
        isCountedForAllAlike();
        countsTheOnesAtATelegramsEnd();
        beginsNothingTwice();
        Checks.finish();
    }

    private static void dueToBeginBehind(String when, BusTelegrams bus, int station, int ones) {
        bus.run(ones);
        Checks.due(when + ": not with " + (ones - 1), bus.station(station, 1), 0);
        Checks.due(when + ": the line so far", bus.bit(0), 1);
        bus.run(1);
        Checks.due(when + ": with " + ones, bus.station(station, 1), 1);
        Checks.due(when + ": the first bit", bus.bit(0), 0);
    }

    private static void isAsLongAsYouLikeAtFirst() {
        for (int priority = 0; priority < 4; priority++) {
            for (int before : new int[] {0, 1, 10, 49, 50, 52, 53, 100}) {
                BusTelegrams bus = new BusTelegrams();
                if (before > 0) {
                    bus.run(before);
                }
                bus.send(0, priority, 1, false, 1, 0);
                bus.run(1);
                Checks.due("priority " + priority + " behind " + before, bus.station(0, 1), 1);
                Checks.due("first bit behind " + before, bus.bit(0), 0);
            }
        }
    }

    private static void isFiftyOrFiftyThreeAtFirst() {
        for (int priority = 0; priority < 4; priority++) {
            BusTelegrams bus = new BusTelegrams();
            bus.disturb(1);
            bus.run(1);
            bus.send(0, priority, 1, false, 1, 0);
            dueToBeginBehind("priority " + priority, bus, 0, NEEDED_AT_FIRST[priority]);
        }
    }

    private static void isFiftyWhenSaidBefore() {
        for (int priority = 0; priority < 4; priority++) {
            BusTelegrams bus = new BusTelegrams();
            bus.send(0, priority, 99, false, 1, 0);
            bus.run(102 + 29);
            bus.disturb(1);
            bus.run(1);
            dueToBeginBehind("said before, priority " + priority, bus, 0, 50);
            // Stopped now, it was said before nevertheless.
            bus.disturb(10);
            bus.run(10);
            Checks.due("stopped", bus.station(0, 5), 1);
            dueToBeginBehind("said before and stopped, priority " + priority, bus, 0, 50);
            bus.run(104);
            Checks.due("control of priority " + priority, bus.byteAt(0), 144 + 4 * priority);
        }
    }

    private static void isFiftyThreeStillBehindAStop() {
        for (int priority = 0; priority < 4; priority++) {
            BusTelegrams bus = new BusTelegrams();
            bus.send(0, priority, 99, false, 1, 0);
            for (int i = 1; i <= 3; i++) {
                bus.disturb(i == 1 ? 11 : 10);
                bus.run(i == 1 ? 11 : 10);
                Checks.due("stopped", bus.station(0, 5), i);
                dueToBeginBehind("stop " + i + ", priority " + priority, bus, 0, NEEDED_AT_FIRST[priority]);
            }
            bus.run(104);
            Checks.due("control of priority " + priority, bus.byteAt(0), 176 + 4 * priority);
        }
        // The next in the queue is said for the first time, though the one before it was said.
        BusTelegrams bus = new BusTelegrams();
        bus.send(0, 2, 1, false, 1, 0);
        bus.send(0, 2, 1, false, 1, 1);
        bus.run(102 + 29);
        bus.disturb(1);
        bus.run(1);
        dueToBeginBehind("the next one", bus, 0, 53);
    }

    /** The 0 comes where 49 or 52 ones are over, so that nothing of them counts. */
    private static void countsFromTheLatestZero() {
        for (int priority = 0; priority < 4; priority++) {
            int needed = NEEDED_AT_FIRST[priority];
            BusTelegrams bus = new BusTelegrams();
            bus.disturb(1);
            bus.run(1);
            bus.send(4, priority, 1, false, 1, 0);
            bus.disturb(needed);
            bus.run(needed);
            Checks.due("the line is disturbed", bus.bit(0), 0);
            Checks.due("does not begin, priority " + priority, bus.station(4, 1), 0);
            dueToBeginBehind("behind the disturbance, priority " + priority, bus, 4, needed);
        }
    }

    private static void mayBeLongOver() {
        for (int priority = 0; priority < 4; priority++) {
            BusTelegrams bus = new BusTelegrams();
            bus.disturb(1);
            bus.run(2000);
            bus.send(0, priority, 1, false, 1, 0);
            Checks.due("told now", bus.station(0, 1), 0);
            bus.run(1);
            Checks.due("the very next, priority " + priority, bus.station(0, 1), 1);
        }
    }

    /** IDLE is of the bit times before this one: a 0 in this very one hinders nobody. */
    private static void countsBeforeTheBitTimeOnly() {
        for (int priority = 0; priority < 4; priority++) {
            BusTelegrams bus = new BusTelegrams();
            bus.disturb(1);
            bus.run(1);
            bus.send(0, priority, 1, false, 1, 0);
            bus.disturb(NEEDED_AT_FIRST[priority] + 1);
            dueToBeginBehind("disturbed, priority " + priority, bus, 0, NEEDED_AT_FIRST[priority]);
            bus.run(101);
            Checks.due("goes on, priority " + priority, bus.station(0, 2), 1);
        }
    }

    private static void isCountedForAllAlike() {
        BusTelegrams bus = new BusTelegrams();
        bus.disturb(1);
        bus.run(1);
        int[] priorities = {0, 1, 2, 3, 0, 1, 2, 3};
        for (int s = 0; s < 8; s++) {
            bus.send(s, priorities[s], 99, false, 1, 0);
        }
        bus.run(50);
        for (int s = 0; s < 8; s++) {
            Checks.due("with 49: " + s, bus.station(s, 1), 0);
        }
        bus.run(1);
        for (int s = 0; s < 8; s++) {
            Checks.due("with 50: " + s, bus.station(s, 1), priorities[s] < 2 ? 1 : 0);
        }

        BusTelegrams late = new BusTelegrams();
        late.disturb(1);
        late.run(1);
        late.send(2, 2, 99, false, 1, 0);
        late.send(3, 3, 99, false, 1, 0);
        late.run(53);
        late.send(1, 1, 99, false, 1, 0);
        late.run(1);
        Checks.due("1 with 53", late.station(1, 1), 1);
        Checks.due("2 with 53", late.station(2, 1), 1);
        Checks.due("3 with 53", late.station(3, 1), 1);
    }

    /** The check is 255, 127, 128 and 254; behind its latest 0 are so many 1s, its own last bit too. */
    private static void countsTheOnesAtATelegramsEnd() {
        int[][] aimsAndOnes = {{176, 1}, {48, 2}, {207, 3}, {177, 9}};
        for (int[] one : aimsAndOnes) {
            BusTelegrams bus = new BusTelegrams();
            bus.send(0, 0, one[0], false, 1, 0);
            bus.run(102);
            dueToBeginBehind("aim " + one[0], bus, 0, 50 - one[1]);
        }
        // An answer's latest 0 is its parity, in T + 23.
        BusTelegrams answered = new BusTelegrams();
        answered.send(0, 0, 1, false, 1, 0);
        answered.send(0, 0, 1, false, 1, 1);
        answered.run(102 + 23);
        dueToBeginBehind("behind an answer", answered, 0, 50);
    }

    /** While it is saying one, a station begins with no other, and none begins beside it. */
    private static void beginsNothingTwice() {
        BusTelegrams bus = new BusTelegrams();
        bus.send(0, 0, 99, false, 2, 255);
        bus.run(20);
        bus.send(0, 0, 99, false, 1, 0);
        bus.send(1, 0, 99, false, 1, 0);
        bus.run(95);
        Checks.due("1 does not begin", bus.station(1, 1), 0);
        Checks.due("1 does not stop", bus.station(1, 5), 0);
        bus.run(3);
        Checks.dueBytes("the first one", bus, Checks.telegram(176, 0, 99, 1, 255, 0));
        Checks.due("right", bus.heard(1), 1);
    }
}
