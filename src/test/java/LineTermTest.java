/** Terms, THE LINE, A CHARACTER, A TELEGRAM: a test for each sentence, at the edges of its numbers. */
public final class LineTermTest {
    public static void main(String[] args) {
        isOneIfNobodySends();
        isZeroIfOneOfEightSendsZero();
        isZeroIfDisturbed();
        isDisturbedForOneBitTime();
        characterHasTheLowestBitFirst();
        characterEndsWithParityAndOne();
        hasTwoOnesBetweenCharacters();
        endsWithItsLastCharacter();
        controlTellsThePriority();
        controlTellsThatItWasSaidBefore();
        sendersAddressHasTheHighestByteFirst();
        aimHasTheHighestByteFirst();
        sixthTellsHowManyBytesLessOne();
        dataAreCountedModulo256();
        checkIsOfAllBytesBefore();
        Checks.finish();
    }

    private static void isOneIfNobodySends() {
        BusTelegrams bus = new BusTelegrams();
        Checks.dueLine("nobody sends", Checks.lineOf(bus, 100), Checks.ones(100));
    }

    /** The first bit of the sender's address is in bit time 13 + 2: seven send a 1 there, one a 0. */
    private static void isZeroIfOneOfEightSendsZero() {
        for (int lesser = 0; lesser < 8; lesser++) {
            BusTelegrams bus = new BusTelegrams();
            for (int s = 0; s < 8; s++) {
                bus.address(s, s == lesser ? 0 : 256);
                bus.send(s, 1, 99, false, 1, 0);
            }
            bus.run(14);
            for (int s = 0; s < 8; s++) {
                Checks.due("alike so far: " + s, bus.station(s, 1), 1);
            }
            bus.run(1);
            Checks.due("one 0 of eight", bus.bit(0), 0);
            for (int s = 0; s < 8; s++) {
                Checks.due("goes on: " + s, bus.station(s, 1), s == lesser ? 1 : 0);
                Checks.due("stopped: " + s, bus.station(s, 5), s == lesser ? 0 : 1);
            }
        }
        BusTelegrams all = new BusTelegrams();
        for (int s = 0; s < 8; s++) {
            all.address(s, 256);
            all.send(s, 1, 99, false, 1, 0);
        }
        all.run(15);
        Checks.due("no 0 of eight", all.bit(0), 1);
        Checks.due("nobody stops", all.station(7, 5), 0);
    }

    private static void isZeroIfDisturbed() {
        BusTelegrams bus = new BusTelegrams();
        bus.disturb(1);
        bus.disturb(3);
        Checks.dueLine("disturbed, nobody sends", Checks.lineOf(bus, 4), "0101");

        // 176 is 0 00001101 11: the third bit is a 0 anyway, the sixth a 1.
        BusTelegrams said = new BusTelegrams();
        said.send(0, 0, 99, false, 1, 0);
        said.disturb(3);
        said.disturb(6);
        Checks.dueLine("disturbed 0 and 1", Checks.lineOf(said, 7), "0000001");
    }

    private static void isDisturbedForOneBitTime() {
        BusTelegrams bus = new BusTelegrams();
        bus.disturb(2000);
        bus.run(1999);
        Checks.due("one before", bus.bit(0), 1);
        bus.run(1);
        Checks.due("that one", bus.bit(0), 0);
        bus.run(1);
        Checks.due("one behind", bus.bit(0), 1);
        for (int i = 0; i < 4; i++) {
            // 1000, 1024, 2000 or 2048 behind it, and all between, nothing comes back.
            bus.run(1000);
        }
        Checks.due("noise once", bus.heard(2), 1);
    }

    /** The data of a telegram with one byte of it is in the bit times 79 .. 89. */
    private static String dataCharacter(int b) {
        BusTelegrams bus = new BusTelegrams();
        bus.send(0, 0, 99, false, 1, b);
        bus.run(78);
        return Checks.lineOf(bus, 11);
    }

    private static void characterHasTheLowestBitFirst() {
        Checks.dueLine("1", dataCharacter(1), "0" + "10000000" + "11");
        Checks.dueLine("2", dataCharacter(2), "0" + "01000000" + "11");
        Checks.dueLine("64", dataCharacter(64), "0" + "00000010" + "11");
        Checks.dueLine("128", dataCharacter(128), "0" + "00000001" + "11");
        Checks.dueLine("127", dataCharacter(127), "0" + "11111110" + "11");
        Checks.dueLine("254", dataCharacter(254), "0" + "01111111" + "11");
        Checks.dueLine("29", dataCharacter(29), "0" + "10111000" + "01");
    }

    private static void characterEndsWithParityAndOne() {
        Checks.dueLine("no 1", dataCharacter(0), "0" + "00000000" + "01");
        Checks.dueLine("one 1", dataCharacter(16), "0" + "00001000" + "11");
        Checks.dueLine("two 1", dataCharacter(129), "0" + "10000001" + "01");
        Checks.dueLine("seven 1", dataCharacter(239), "0" + "11110111" + "11");
        Checks.dueLine("eight 1", dataCharacter(255), "0" + "11111111" + "01");
    }

    private static void hasTwoOnesBetweenCharacters() {
        BusTelegrams bus = new BusTelegrams();
        bus.send(0, 0, 99, true, 14, 0);
        String line = Checks.lineOf(bus, 271);
        for (int i = 1; i < 21; i++) {
            Checks.dueLine("before character " + i, line.substring(13 * i - 3, 13 * i + 1), "1110");
        }
    }

    private static void endsWithItsLastCharacter() {
        for (int n : new int[] {1, 2, 13, 14}) {
            BusTelegrams bus = new BusTelegrams();
            bus.send(0, 0, 99, false, n, 0);
            int end = 13 * (7 + n) - 2;
            bus.run(end - 1);
            Checks.due("still says it, n " + n, bus.station(0, 1), 1);
            bus.run(1);
            Checks.due("has said it, n " + n, bus.station(0, 1), 0);
            Checks.due("the last bit, n " + n, bus.bit(0), 1);
            Checks.dueLine("nothing behind it, n " + n, Checks.lineOf(bus, 40), Checks.ones(40));
        }
    }

    private static void controlTellsThePriority() {
        int[] control = {176, 180, 184, 188};
        for (int priority = 0; priority < 4; priority++) {
            BusTelegrams bus = new BusTelegrams();
            bus.send(0, priority, 99, false, 1, 0);
            bus.run(105);
            Checks.due("control of priority " + priority, bus.byteAt(0), control[priority]);
        }
    }

    /** The sayings end in 102, and at most 152 behind each other. */
    private static void controlTellsThatItWasSaidBefore() {
        int[] control = {144, 148, 152, 156};
        for (int priority = 0; priority < 4; priority++) {
            BusTelegrams bus = new BusTelegrams();
            bus.send(0, priority, 99, false, 1, 0);
            bus.run(105);
            for (int times = 2; times <= 4; times++) {
                bus.run(152);
                String call = "saying " + times + " of priority " + priority;
                Checks.due(call, bus.heard(0), times);
                Checks.due(call + ": right", bus.heard(1), times);
                Checks.due(call + ": control", bus.byteAt(0), control[priority]);
            }
        }
    }

    private static final int[][] TWO_BYTES = {
        {0, 0, 0}, {1, 0, 1}, {255, 0, 255}, {256, 1, 0}, {257, 1, 1}, {32767, 127, 255}, {32768, 128, 0},
        {4660, 18, 52}, {65280, 255, 0}, {65535, 255, 255}
    };

    private static void sendersAddressHasTheHighestByteFirst() {
        for (int[] one : TWO_BYTES) {
            BusTelegrams bus = new BusTelegrams();
            bus.address(6, one[0]);
            bus.send(6, 2, 99, false, 1, 1);
            bus.run(105);
            Checks.dueBytes("sender " + one[0], bus, Checks.telegram(184, one[0], 99, 0, 1));
            Checks.due("sender's high byte of " + one[0], bus.byteAt(1), one[1]);
            Checks.due("sender's low byte of " + one[0], bus.byteAt(2), one[2]);
        }
    }

    private static void aimHasTheHighestByteFirst() {
        for (int[] one : TWO_BYTES) {
            BusTelegrams bus = new BusTelegrams();
            bus.send(6, 2, one[0], false, 1, 1);
            bus.run(105);
            Checks.due("aim's high byte of " + one[0], bus.byteAt(3), one[1]);
            Checks.due("aim's low byte of " + one[0], bus.byteAt(4), one[2]);
        }
        for (int group : new int[] {0, 1, 254, 255}) {
            BusTelegrams bus = new BusTelegrams();
            bus.send(6, 2, group, true, 1, 1);
            bus.run(105);
            Checks.due("group's high byte of " + group, bus.byteAt(3), 0);
            Checks.due("group's low byte of " + group, bus.byteAt(4), group);
        }
    }

    private static void sixthTellsHowManyBytesLessOne() {
        for (int n = 1; n <= 14; n++) {
            for (int group = 0; group <= 1; group++) {
                BusTelegrams bus = new BusTelegrams();
                bus.send(0, 0, 99, group == 1, n, 0);
                bus.run(13 * (7 + n) + 1);
                String call = "n " + n + ", group " + group;
                Checks.due(call + ": sixth", bus.byteAt(5), 128 * group + n - 1);
                Checks.due(call + ": the last data", bus.byteAt(5 + n), n - 1);
                Checks.due(call + ": right", bus.heard(1), 1);
                bus.byteAt(6 + n);
                Checks.illegalArgument(call + ": behind the check", () -> bus.byteAt(7 + bus.byteAt(5) % 128 + 1));
            }
        }
    }

    private static void dataAreCountedModulo256() {
        int[][] data = {
            {242, 242, 243, 244, 245, 246, 247, 248, 249, 250, 251, 252, 253, 254, 255},
            {243, 243, 244, 245, 246, 247, 248, 249, 250, 251, 252, 253, 254, 255, 0},
            {255, 255, 0, 1, 2, 3, 4, 5, 6, 7, 8, 9, 10, 11, 12},
            {0, 0, 1, 2, 3, 4, 5, 6, 7, 8, 9, 10, 11, 12, 13}
        };
        for (int[] one : data) {
            BusTelegrams bus = new BusTelegrams();
            bus.send(0, 0, 99, false, 14, one[0]);
            bus.run(274);
            for (int i = 1; i <= 14; i++) {
                Checks.due("data " + i + " from " + one[0], bus.byteAt(5 + i), one[i]);
            }
            Checks.due("right from " + one[0], bus.heard(1), 1);
        }
    }

    private static void checkIsOfAllBytesBefore() {
        BusTelegrams bus = new BusTelegrams();
        bus.send(0, 0, 1, false, 1, 0);
        bus.run(105);
        Checks.due("255 ^ 176 ^ 1", bus.byteAt(7), 78);

        BusTelegrams other = new BusTelegrams();
        other.address(0, 0x1020);
        other.send(0, 3, 0x0408, false, 2, 1);
        other.run(118);
        Checks.due("255 ^ 188 ^ 16 ^ 32 ^ 4 ^ 8 ^ 1 ^ 1 ^ 2", other.byteAt(8), 125);

        // Said again the control has 32 less, and so the check is another one.
        BusTelegrams again = new BusTelegrams();
        again.send(0, 0, 99, false, 1, 0);
        again.run(105);
        Checks.due("255 ^ 176 ^ 99", again.byteAt(7), 44);
        again.run(152);
        Checks.due("255 ^ 144 ^ 99", again.byteAt(7), 12);
    }
}
