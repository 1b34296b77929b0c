/** Promise 10: how many things were heard. */
public final class HeardTest {
    public static void main(String[] args) {
        refusesWhatIsOutside();
        isCompleteBehindTheThirdOne();
        isCompleteWithAZeroInTheGap();
        countsNoise();
        countsTelegramsThatAreNotRight();
        needsEightCharacters();
        hearsVeryLongOnes();
        Checks.finish();
    }

    private static void refusesWhatIsOutside() {
        BusTelegrams bus = new BusTelegrams();
        for (int bad : new int[] {-1, 5, Integer.MIN_VALUE, Integer.MAX_VALUE}) {
            Checks.illegalArgument("heard(" + bad + ")", () -> bus.heard(bad));
        }
    }

    private static void isCompleteBehindTheThirdOne() {
        BusTelegrams bus = new BusTelegrams();
        bus.send(0, 0, 1, false, 1, 0);
        bus.run(104);
        Checks.dueHeard("T + 2", bus, 0, 0, 0, 0, 0);
        bus.run(1);
        Checks.dueHeard("T + 3", bus, 1, 1, 0, 0, 0);
        bus.run(23);
        Checks.dueHeard("T + 26", bus, 1, 1, 0, 0, 0);
        bus.run(1);
        Checks.dueHeard("T + 27", bus, 1, 1, 0, 1, 0);
    }

    private static void isCompleteWithAZeroInTheGap() {
        // T + 1 is a 0: complete there, and the next thing begins with it, ends in T + 11.
        BusTelegrams first = new BusTelegrams();
        first.send(0, 0, 1, false, 1, 0);
        first.disturb(103);
        first.run(102);
        Checks.dueHeard("T", first, 0, 0, 0, 0, 0);
        first.run(1);
        Checks.dueHeard("T + 1", first, 1, 1, 0, 0, 0);
        // 1 1 and the answer's 0 are behind it: two characters, so no answer, but noise.
        first.run(26);
        Checks.due("bit of the answer", first.bit(13), 0);
        Checks.dueHeard("T + 27", first, 1, 1, 1, 0, 0);
        Checks.due("answer in the noise", first.answer(), BusTelegrams.NONE);

        // T + 2 is a 0: the noise from there ends in T + 12, T + 13 is a 1, T + 14 the answer's 0.
        BusTelegrams second = new BusTelegrams();
        second.send(0, 0, 1, false, 1, 0);
        second.disturb(104);
        second.run(103);
        Checks.dueHeard("T + 1", second, 0, 0, 0, 0, 0);
        second.run(1);
        Checks.dueHeard("T + 2", second, 1, 1, 0, 0, 0);
        second.run(12);
        Checks.dueHeard("T + 14", second, 1, 1, 1, 0, 0);
        second.run(13);
        Checks.dueHeard("answer behind noise", second, 1, 1, 1, 1, 0);
        Checks.due("answer behind noise", second.answer(), 204);
        second.run(1);
        Checks.due("SAID behind noise", second.station(0, 3), 1);

        // The noise is complete before T + 14: nobody answers.
        BusTelegrams third = new BusTelegrams();
        third.send(0, 0, 1, false, 1, 0);
        third.disturb(103);
        third.disturb(114);
        third.run(114);
        Checks.dueHeard("T + 12", third, 1, 1, 1, 0, 0);
        third.run(2);
        Checks.due("no answer begins", third.bit(0), 1);
        third.run(14);
        Checks.dueHeard("T + 28", third, 1, 1, 2, 0, 0);
        Checks.due("no answer", third.answer(), BusTelegrams.NONE);
        Checks.due("not SAID", third.station(0, 3), 0);
    }

    private static void countsNoise() {
        BusTelegrams bus = new BusTelegrams();
        bus.disturb(1);
        bus.run(13);
        Checks.dueHeard("a bad character so far", bus, 0, 0, 0, 0, 0);
        bus.run(1);
        Checks.dueHeard("a bad character", bus, 0, 0, 1, 0, 0);
        bus.run(10);
        Checks.sayByDisturbing(bus, 204);
        bus.run(3);
        Checks.dueHeard("a good character, no telegram before", bus, 0, 0, 2, 0, 0);
        // 0 in the last bit: bad, though the parity is right.
        bus.disturb(1);
        bus.disturb(10);
        bus.disturb(11);
        bus.run(14);
        Checks.dueHeard("a bad last bit", bus, 0, 0, 3, 0, 0);
        // Two 0s that follow: the second is a data bit.
        bus.disturb(1);
        bus.disturb(2);
        bus.disturb(12);
        bus.run(12);
        Checks.dueHeard("a 0 behind a character", bus, 0, 0, 4, 0, 0);
        bus.run(13);
        Checks.dueHeard("what began with it", bus, 0, 0, 5, 0, 0);
    }

    private static void countsTelegramsThatAreNotRight() {
        BusTelegrams right = new BusTelegrams();
        right.run(20);
        Checks.sayByDisturbing(right, Checks.telegram(176, 9, 2, 0, 5));
        right.run(28);
        Checks.dueHeard("right", right, 1, 1, 0, 1, 0);
        Checks.due("right: answer", right.answer(), 204);

        BusTelegrams check = new BusTelegrams();
        int[] wrongCheck = Checks.telegram(176, 9, 2, 0, 5);
        wrongCheck[7] ^= 16;
        Checks.sayByDisturbing(check, wrongCheck);
        check.run(28);
        Checks.dueHeard("wrong check", check, 1, 0, 0, 0, 1);
        Checks.due("wrong check: answer", check.answer(), 12);

        for (int sixth : new int[] {1, 2, 13, 127, 129}) {
            BusTelegrams size = new BusTelegrams();
            size.listen(1, 2, true);
            Checks.sayByDisturbing(size, Checks.telegram(176, 9, 2, sixth, 5));
            size.run(28);
            Checks.dueHeard("wrong size " + sixth, size, 1, 0, 0, 0, 1);
            Checks.due("wrong size " + sixth + ": answer", size.answer(), 12);
        }

        // A busy one answers 12 too; and a right group telegram is for listeners alone.
        BusTelegrams busy = new BusTelegrams();
        busy.busy(2, true);
        Checks.sayByDisturbing(busy, wrongCheck);
        busy.run(28);
        Checks.due("busy and wrong: answer", busy.answer(), 12);

        BusTelegrams far = new BusTelegrams();
        far.listen(3, 2, true);
        far.address(4, 0x102);
        Checks.sayByDisturbing(far, Checks.telegram(176, 9, 0x102, 128, 5));
        far.run(28);
        Checks.dueHeard("a group above 255", far, 1, 1, 0, 0, 0);
        Checks.due("a group above 255: answer", far.answer(), BusTelegrams.NONE);
    }

    private static void needsEightCharacters() {
        BusTelegrams seven = new BusTelegrams();
        Checks.sayByDisturbing(seven, 176, 0, 0, 0, 1, 0, 78);
        seven.run(28);
        Checks.dueHeard("seven characters", seven, 0, 0, 1, 0, 0);

        BusTelegrams bad = new BusTelegrams();
        // The data's eight 1 with a parity of 1, so one character in the middle is bad.
        Checks.sayByDisturbing(bad, 176, 0, 0, 0, 1, 0);
        bad.disturb(3);
        bad.run(15);
        Checks.due("noise so far", bad.heard(2), 0);
        bad.run(20);
        Checks.dueHeard("a bad one", bad, 0, 0, 1, 0, 0);
    }

    /** 255 needs just two disturbances, so a telegram can be drawn out far beyond 21 bytes. */
    private static void hearsVeryLongOnes() {
        BusTelegrams bus = new BusTelegrams();
        bus.send(0, 0, 1, false, 14, 0);
        bus.run(271);
        int more = 230;
        for (int i = 0; i < more; i++) {
            bus.disturb(13 * (i % 20) + 3);
            bus.disturb(13 * (i % 20) + 12);
            if (i % 20 == 19) {
                bus.run(260);
            }
        }
        bus.run(130 + 3);
        Checks.dueHeard("251 characters", bus, 1, 0, 0, 0, 0);
        Checks.due("the last byte", bus.byteAt(20 + more), 255);
        Checks.illegalArgument("behind the last", () -> bus.byteAt(21 + more));

        // Behind its 512th call an object may answer what it likes, but still throws nothing.
        BusTelegrams endless = new BusTelegrams();
        for (int i = 0; i < 700; i++) {
            endless.disturb(1);
            endless.disturb(10);
            endless.run(13);
        }
        endless.run(100);
        endless.heard(0);

        // The sixth byte may tell of more data than send takes.
        int[] data = new int[40];
        BusTelegrams forty = new BusTelegrams();
        Checks.sayByDisturbing(forty, Checks.telegram(176, 0, 3, 39, data));
        forty.run(28);
        Checks.dueHeard("40 bytes of data", forty, 1, 1, 0, 1, 0);
    }
}
