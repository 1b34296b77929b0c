/** Terms, SAYING: a test for each sentence, at each bit of a telegram and just behind it. */
public final class SayingTermTest {
    private static final String FIRST = Checks.bits(Checks.telegram(176, 0, 99, 0, 0));
    private static final String AGAIN = Checks.bits(Checks.telegram(144, 0, 99, 0, 0));
    private static final int LENGTH = 102;

    public static void main(String[] args) {
        sendsOneBitInEachBitTime();
        stopsAtEachOneThatIsDisturbed();
        stopsNowhereElse();
        beginsAgainFromTheFirstBit();
        wasNoSayingIfItStopped();
        stopsForALesserBitOfAnother();
        goesOnWithTheSameBits();
        isSaidBehindItsLastBit();
        waitsUpToTwentyEight();
        saysNothingWhileItWaits();
        saysItAgainBehindAStopLater();
        Checks.finish();
    }

    private static BusTelegrams withOne() {
        BusTelegrams bus = new BusTelegrams();
        bus.send(0, 0, 99, false, 1, 0);
        return bus;
    }

    private static void sendsOneBitInEachBitTime() {
        Checks.dueLine("whole", Checks.lineOf(withOne(), LENGTH), FIRST);
        BusTelegrams bus = withOne();
        for (int i = 0; i < LENGTH; i++) {
            bus.run(1);
            Checks.due("bit " + (i + 1), bus.bit(0), FIRST.charAt(i) - '0');
        }
    }

    private static void stopsAtEachOneThatIsDisturbed() {
        for (int time = 1; time <= LENGTH; time++) {
            BusTelegrams bus = withOne();
            bus.disturb(time);
            bus.run(time);
            boolean stops = FIRST.charAt(time - 1) == '1';
            Checks.due("disturbed in " + time, bus.bit(0), 0);
            if (stops) {
                Checks.dueFacts("stopped in " + time, bus, 0, 1, 0, 0, 0, 0, 1);
            } else {
                Checks.dueFacts("not stopped in " + time, bus, 0, 1, 1, 0, 0, 0, 0);
                bus.run(LENGTH - time);
                Checks.dueFacts("said in spite of " + time, bus, 0, 1, 0, 1, 0, 0, 0);
            }
        }
    }

    /** Before its first bit and behind its last one nothing stops it. */
    private static void stopsNowhereElse() {
        BusTelegrams before = new BusTelegrams();
        before.disturb(1);
        before.run(1);
        before.send(0, 0, 99, false, 1, 0);
        before.run(1);
        Checks.dueFacts("before", before, 0, 1, 0, 0, 0, 0, 0);

        for (int behind = 1; behind <= 28; behind++) {
            BusTelegrams bus = withOne();
            bus.disturb(LENGTH + behind);
            bus.run(LENGTH + behind);
            Checks.dueFacts("T + " + behind, bus, 0, 1, 0, behind < 28 ? 1 : 0, 0, 0, 0);
        }
    }

    private static void beginsAgainFromTheFirstBit() {
        for (int time = 1; time <= LENGTH; time++) {
            if (FIRST.charAt(time - 1) == '1') {
                BusTelegrams bus = withOne();
                bus.disturb(time);
                bus.run(time);
                Checks.dueLine("pause behind " + time, Checks.lineOf(bus, 50), Checks.ones(50));
                Checks.dueLine("anew behind " + time, Checks.lineOf(bus, LENGTH), FIRST);
                Checks.dueFacts("said behind " + time, bus, 0, 1, 0, 1, 0, 0, 1);
            }
        }
    }

    /** Five stops before the first saying and one behind it: still it is said four times. */
    private static void wasNoSayingIfItStopped() {
        BusTelegrams bus = withOne();
        bus.disturb(11);
        bus.run(11);
        for (int i = 2; i <= 5; i++) {
            bus.disturb(50 + 11);
            bus.run(50 + 11);
            Checks.dueFacts("stop " + i, bus, 0, 1, 0, 0, 0, 0, i);
        }
        bus.run(50);
        Checks.dueLine("the first saying", Checks.lineOf(bus, LENGTH), FIRST);
        int pause = 50 - Checks.onesAtTheEnd(FIRST);
        bus.disturb(pause + LENGTH);
        bus.run(pause + LENGTH);
        Checks.dueFacts("stopped at its last bit", bus, 0, 1, 0, 0, 0, 0, 6);
        pause = 50;
        for (int times = 2; times <= 4; times++) {
            bus.run(pause);
            Checks.dueLine("saying " + times, Checks.lineOf(bus, LENGTH), AGAIN);
            pause = 50 - Checks.onesAtTheEnd(AGAIN);
        }
        Checks.dueFacts("four times", bus, 0, 1, 0, 1, 0, 0, 6);
        bus.run(28);
        Checks.dueFacts("LOST", bus, 0, 0, 0, 0, 0, 1, 6);
        // Each of the six that stopped had a bad character: noise.
        Checks.dueHeard("six stops", bus, 4, 4, 6, 0, 0);
    }

    /** They part at the bits that are named: of control, sender, aim, how many, data and check. */
    private static void stopsForALesserBitOfAnother() {
        // 176 and 180 part at 4: in bit time 1 + 3.
        dueToStop("control", 4, 1, 99, 1, 0, 0, 99, 1, 0);
        dueToStop("aim's high byte", 39 + 2, 0, 256, 1, 0, 0, 0, 1, 0);
        dueToStop("aim's low byte", 52 + 9, 0, 128, 1, 0, 0, 0, 1, 0);
        dueToStop("how many", 65 + 2, 0, 99, 2, 0, 0, 99, 1, 0);
        dueToStop("data, lowest bit", 78 + 2, 0, 99, 1, 1, 0, 99, 1, 0);
        dueToStop("data, highest bit", 78 + 9, 0, 99, 1, 128, 0, 99, 1, 0);
        // 3 has its lowest two bits, 1 the lowest alone.
        dueToStop("the lowest bit that differs", 78 + 3, 0, 99, 1, 3, 0, 99, 1, 1);
        // The lesser number comes second if its lowest bit that differs is a 1.
        dueToStop("not the lesser number", 78 + 2, 0, 99, 1, 1, 0, 99, 1, 2);
    }

    /** Stations 0 and 1 have the same address; what is told of 0 comes first, and 0 stops. */
    private static void dueToStop(String part, int time, int... told) {
        BusTelegrams bus = new BusTelegrams();
        bus.address(1, 0);
        bus.send(0, told[0], told[1], false, told[2], told[3]);
        bus.send(1, told[4], told[5], false, told[6], told[7]);
        bus.run(time - 1);
        Checks.dueFacts(part + ": both so far, 0", bus, 0, 1, 1, 0, 0, 0, 0);
        Checks.dueFacts(part + ": both so far, 1", bus, 1, 1, 1, 0, 0, 0, 0);
        bus.run(1);
        Checks.due(part + ": the line", bus.bit(0), 0);
        Checks.dueFacts(part + ": 0 stops", bus, 0, 1, 0, 0, 0, 0, 1);
        Checks.dueFacts(part + ": 1 goes on", bus, 1, 1, 1, 0, 0, 0, 0);
        int end = 13 * (7 + told[6]) - 2;
        bus.run(end - time);
        Checks.dueFacts(part + ": 1 waits", bus, 1, 1, 0, 1, 0, 0, 0);
        Checks.dueFacts(part + ": 0 does not", bus, 0, 1, 0, 0, 0, 0, 1);
        bus.run(3);
        Checks.due(part + ": 1's data", bus.byteAt(6), told[7]);
        Checks.due(part + ": right", bus.heard(1), 1);
    }

    private static void goesOnWithTheSameBits() {
        BusTelegrams bus = new BusTelegrams();
        for (int s = 0; s < 8; s++) {
            bus.address(s, 500);
            bus.send(s, 3, 99, false, 1, 7);
        }
        bus.run(LENGTH);
        for (int s = 0; s < 8; s++) {
            Checks.dueFacts("all eight the same: " + s, bus, s, 1, 0, 1, 0, 0, 0);
        }
        bus.run(3);
        Checks.dueHeard("once heard", bus, 1, 1, 0, 0, 0);
    }

    private static void isSaidBehindItsLastBit() {
        BusTelegrams bus = withOne();
        bus.run(LENGTH - 1);
        Checks.dueFacts("T - 1", bus, 0, 1, 1, 0, 0, 0, 0);
        bus.run(1);
        Checks.dueFacts("T", bus, 0, 1, 0, 1, 0, 0, 0);

        // What is disturbed behind T does not take back that it was said.
        BusTelegrams disturbed = withOne();
        disturbed.disturb(LENGTH + 1);
        disturbed.run(LENGTH + 1);
        Checks.dueFacts("T + 1", disturbed, 0, 1, 0, 1, 0, 0, 0);
        disturbed.run(50);
        Checks.dueLine("said before", Checks.lineOf(disturbed, LENGTH), AGAIN);
    }

    private static void waitsUpToTwentyEight() {
        BusTelegrams bus = withOne();
        bus.run(LENGTH);
        for (int behind = 0; behind <= 27; behind++) {
            Checks.due("waits in T + " + behind, bus.station(0, 2), 1);
            bus.run(1);
        }
        Checks.due("waits in T + 28", bus.station(0, 2), 0);

        // With fourteen bytes of data T is another one.
        BusTelegrams longest = new BusTelegrams();
        longest.send(0, 0, 99, false, 14, 0);
        longest.run(270);
        Checks.due("before T", longest.station(0, 2), 0);
        longest.run(1);
        Checks.due("T", longest.station(0, 2), 1);
        longest.run(27);
        Checks.due("T + 27", longest.station(0, 2), 1);
        longest.run(1);
        Checks.due("T + 28", longest.station(0, 2), 0);
    }

    private static void saysNothingWhileItWaits() {
        BusTelegrams bus = withOne();
        bus.send(0, 0, 99, false, 1, 1);
        bus.run(LENGTH);
        Checks.dueLine("T + 1 .. T + 28", Checks.lineOf(bus, 28), Checks.ones(28));
        Checks.dueFacts("T + 28", bus, 0, 2, 0, 0, 0, 0, 0);
        // A check of 254 ends in nine 1s, the most there are: 41 more, and nobody began before.
        BusTelegrams most = new BusTelegrams();
        most.send(0, 0, 177, false, 1, 0);
        most.run(LENGTH);
        Checks.dueLine("T + 1 .. T + 41", Checks.lineOf(most, 41), Checks.ones(41));
        most.run(1);
        Checks.due("T + 42", most.station(0, 1), 1);
    }

    /** Who stopped for another begins when the other's telegram and answer are over. */
    private static void saysItAgainBehindAStopLater() {
        BusTelegrams bus = new BusTelegrams();
        bus.send(0, 0, 2, false, 1, 0);
        bus.send(1, 0, 2, false, 1, 0);
        bus.run(LENGTH + 24);
        Checks.dueFacts("stopped", bus, 1, 1, 0, 0, 0, 0, 1);
        // The answer's latest 0 was one bit time ago.
        Checks.dueLine("pause", Checks.lineOf(bus, 49), Checks.ones(49));
        String other = Checks.bits(Checks.telegram(176, 1, 2, 0, 0));
        Checks.dueLine("for the first time", Checks.lineOf(bus, LENGTH), other);
        Checks.dueFacts("waits", bus, 1, 1, 0, 1, 0, 0, 1);
    }
}
