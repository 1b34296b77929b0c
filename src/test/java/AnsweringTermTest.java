/** Terms, the ANSWER and ANSWERING: a test for each sentence, one bit time sooner and later too. */
public final class AnsweringTermTest {
    // From station 0, which says it in the bit times 1 .. 102, to one that there is not.
    private static final int LENGTH = 102;
    private static final String NOBODY = Checks.ones(13);

    public static void main(String[] args) {
        answerBeginsInFourteen();
        answerMayBeAnyByte();
        answerIsOneCharacter();
        answerIsNoBadCharacter();
        answerIsThereWhenItIsComplete();
        answerIsThatToTheLatestTelegram();
        allBeginInFourteen();
        noneBeginsIfAnotherThingWasComplete();
        allBeginIfItIsNotYetComplete();
        thoseWhoseAddressIsTheAim();
        thoseThatListenToTheGroup();
        sixthByteTellsWhich();
        noneThatWaits();
        isTwelveIfNotRight();
        isByBusyInThatBitTime();
        allSendTogether();
        isSentWholly();
        Checks.finish();
    }

    private static BusTelegrams saidTo(int aim) {
        BusTelegrams bus = new BusTelegrams();
        bus.send(0, 0, aim, false, 1, 0);
        bus.run(LENGTH);
        return bus;
    }

    private static BusTelegrams saidToNobodyThen(String line) {
        BusTelegrams bus = saidTo(99);
        Checks.play(bus, line);
        return bus;
    }

    private static void answerBeginsInFourteen() {
        for (int ones = 3; ones <= 30; ones++) {
            BusTelegrams bus = saidToNobodyThen(Checks.ones(ones) + Checks.bits(204) + "111");
            boolean answer = ones == 13;
            Checks.due("behind " + ones, bus.answer(), answer ? 204 : BusTelegrams.NONE);
            Checks.dueHeard("behind " + ones, bus, 1, 1, answer ? 0 : 1, answer ? 1 : 0, 0);
        }
    }

    private static void answerMayBeAnyByte() {
        for (int b = 0; b <= 255; b++) {
            BusTelegrams bus = saidToNobodyThen(NOBODY + Checks.bits(b) + "111");
            Checks.due("byte " + b, bus.answer(), b);
            Checks.dueHeard("byte " + b, bus, 1, 1, 0, b == 204 ? 1 : 0, b == 204 ? 0 : 1);
        }
    }

    private static void answerIsOneCharacter() {
        BusTelegrams two = saidToNobodyThen(NOBODY + Checks.bits(204, 204) + "111");
        Checks.due("two characters", two.answer(), BusTelegrams.NONE);
        Checks.dueHeard("two characters", two, 1, 1, 1, 0, 0);

        BusTelegrams seven = saidToNobodyThen(NOBODY + Checks.bits(204, 1, 2, 3, 4, 5, 6) + "111");
        Checks.due("seven characters", seven.answer(), BusTelegrams.NONE);
        Checks.dueHeard("seven characters", seven, 1, 1, 1, 0, 0);

        BusTelegrams eight = saidToNobodyThen(NOBODY + Checks.bits(204, 1, 2, 3, 4, 0, 6, 7) + "111");
        Checks.due("a telegram", eight.answer(), BusTelegrams.NONE);
        Checks.dueHeard("a telegram", eight, 2, 1, 0, 0, 0);
    }

    private static void answerIsNoBadCharacter() {
        String good = Checks.bits(204);
        for (int bit = 1; bit <= 10; bit++) {
            String bad = good.substring(0, bit) + (good.charAt(bit) == '0' ? '1' : '0') + good.substring(bit + 1);
            BusTelegrams bus = saidToNobodyThen(NOBODY + bad + "111");
            Checks.due("bit " + bit, bus.answer(), BusTelegrams.NONE);
            Checks.dueHeard("bit " + bit, bus, 1, 1, 1, 0, 0);
        }
    }

    private static void answerIsThereWhenItIsComplete() {
        for (String end : new String[] {"0", "10", "111"}) {
            BusTelegrams bus = saidToNobodyThen(NOBODY + Checks.bits(204) + end.substring(0, end.length() - 1));
            Checks.due("one before " + end, bus.answer(), BusTelegrams.NONE);
            Checks.dueHeard("one before " + end, bus, 1, 1, 0, 0, 0);
            Checks.play(bus, end.substring(end.length() - 1));
            Checks.due("behind " + end, bus.answer(), 204);
            Checks.dueHeard("behind " + end, bus, 1, 1, 0, 1, 0);
        }
    }

    private static void answerIsThatToTheLatestTelegram() {
        BusTelegrams bus = saidToNobodyThen(NOBODY + Checks.bits(5) + "111");
        Checks.due("to the first", bus.answer(), 5);
        // Noise is no telegram: the latest one has its answer still.
        Checks.play(bus, "0" + Checks.ones(13));
        Checks.due("behind noise", bus.answer(), 5);
        // 14 bit times behind noise nothing is an answer, nor is it to that telegram.
        Checks.play(bus, Checks.bits(0) + Checks.ones(13) + Checks.bits(9) + "111");
        Checks.due("behind more noise", bus.answer(), 5);
        Checks.dueHeard("behind more noise", bus, 1, 1, 3, 0, 1);

        BusTelegrams other = saidToNobodyThen(NOBODY + Checks.bits(5) + Checks.ones(5));
        String next = Checks.bits(Checks.telegram(176, 9, 99, 0, 0));
        Checks.play(other, next + "11");
        Checks.due("the next is not complete", other.answer(), 5);
        Checks.play(other, "1");
        Checks.due("the next has none", other.answer(), BusTelegrams.NONE);
        Checks.play(other, Checks.ones(10) + Checks.bits(204) + "111");
        Checks.due("the next one's", other.answer(), 204);
        Checks.dueHeard("two answers", other, 2, 2, 0, 1, 1);
    }

    private static void allBeginInFourteen() {
        BusTelegrams bus = saidTo(1);
        Checks.dueLine("T + 1 ..", Checks.lineOf(bus, 27), Checks.ones(13) + "00011001101" + "111");
        Checks.due("behind it", bus.answer(), 204);
        // Once, and not again 14 later, nor behind the answer.
        Checks.dueLine("T + 28 ..", Checks.lineOf(bus, 200), Checks.ones(200));

        BusTelegrams one = new BusTelegrams();
        Checks.dueLine("no telegram, no answer", Checks.lineOf(one, 64), Checks.ones(64));
    }

    /** Noise that is complete in T + 12 or T + 13, so that the next thing has begun. */
    private static void noneBeginsIfAnotherThingWasComplete() {
        int[][] zeros = {{1, 12}, {1, 13}, {2, 13}};
        for (int[] one : zeros) {
            BusTelegrams bus = saidTo(1);
            bus.disturb(one[0]);
            bus.disturb(one[1]);
            bus.run(13);
            Checks.dueHeard("complete in T + " + one[1], bus, 1, 1, 1, 0, 0);
            Checks.dueLine("T + 14 ..", Checks.lineOf(bus, 30), Checks.ones(30));
            Checks.due("no answer", bus.answer(), BusTelegrams.NONE);
            Checks.dueFacts("said again", bus, 0, 1, 0, 0, 0, 0, 0);
        }
    }

    /** Noise that begins in T + 1 .. T + 13 and is not complete before T + 14: all the same they begin. */
    private static void allBeginIfItIsNotYetComplete() {
        for (int zero = 1; zero <= 13; zero++) {
            // In T + 3 it would be a character more of the telegram.
            if (zero != 3) {
                BusTelegrams bus = saidTo(1);
                bus.disturb(zero);
                bus.run(13);
                Checks.dueHeard("T + " + zero + ", in T + 13", bus, 1, 1, 0, 0, 0);
                Checks.dueLine("T + " + zero + ", from T + 14", Checks.lineOf(bus, 11), Checks.bits(204));
                bus.run(20);
                // What begins in T + 2 is complete behind the 0 in T + 14 that the answer begins with.
                Checks.due("T + " + zero + ": answer", bus.answer(), zero == 2 ? 204 : BusTelegrams.NONE);
                Checks.due("T + " + zero + ": SAID", bus.station(0, 3), zero == 2 ? 1 : 0);
            }
        }
    }

    private static void thoseWhoseAddressIsTheAim() {
        int[][] aimsAndAddresses = {
            {0, 0, 1}, {65535, 65535, 1}, {256, 256, 1}, {257, 257, 1}, {32768, 32768, 1}, {0, 1, 0}, {0, 256, 0},
            {256, 1, 0}, {256, 0, 0}, {1, 256, 0}, {1, 257, 0}, {65535, 65534, 0}, {65535, 32767, 0},
            {65535, 255, 0}, {255, 65535, 0}
        };
        for (int[] one : aimsAndAddresses) {
            BusTelegrams bus = new BusTelegrams();
            for (int s = 0; s < 8; s++) {
                bus.address(s, 5000);
            }
            bus.address(6, one[1]);
            bus.send(2, 0, one[0], false, 1, 0);
            bus.run(130);
            int want = one[2] == 1 ? 204 : BusTelegrams.NONE;
            Checks.due("aim " + one[0] + ", address " + one[1], bus.answer(), want);
        }
    }

    private static void thoseThatListenToTheGroup() {
        for (int group : new int[] {0, 7, 128, 255}) {
            for (int listens = 0; listens <= 1; listens++) {
                for (int address = 0; address <= 1; address++) {
                    for (int toGroup = 0; toGroup <= 1; toGroup++) {
                        BusTelegrams bus = new BusTelegrams();
                        for (int s = 0; s < 8; s++) {
                            bus.address(s, 5000);
                        }
                        bus.listen(4, group, listens == 1);
                        bus.address(4, address == 1 ? group : 5000);
                        bus.send(2, 0, group, toGroup == 1, 1, 0);
                        bus.run(130);
                        boolean meant = toGroup == 1 ? listens == 1 : address == 1;
                        String call = "aim " + group + ", group " + toGroup + ", listens " + listens + ", address "
                            + address;
                        Checks.due(call, bus.answer(), meant ? 204 : BusTelegrams.NONE);
                    }
                }
            }
        }
    }

    /** By disturbing alone: 127 is not right but to an address, 128 is right and to a group. */
    private static void sixthByteTellsWhich() {
        int[] sixths = {0, 127, 128, 255};
        int[] toAddress = {204, 12, BusTelegrams.NONE, BusTelegrams.NONE};
        int[] toGroup = {BusTelegrams.NONE, BusTelegrams.NONE, 204, 12};
        for (int i = 0; i < 4; i++) {
            int[] bytes = Checks.telegram(176, 9, 200, sixths[i], 5);
            BusTelegrams address = new BusTelegrams();
            address.address(5, 200);
            Checks.sayByDisturbing(address, bytes);
            address.run(28);
            Checks.due("sixth " + sixths[i] + ", an address", address.answer(), toAddress[i]);
            BusTelegrams group = new BusTelegrams();
            group.listen(5, 200, true);
            Checks.sayByDisturbing(group, bytes);
            group.run(28);
            Checks.due("sixth " + sixths[i] + ", a listener", group.answer(), toGroup[i]);
        }
        // A group has one byte: of an aim above 255 nobody is a listener.
        for (int aim : new int[] {256, 257, 0x0501, 65280, 65535}) {
            BusTelegrams bus = new BusTelegrams();
            bus.listen(5, aim % 256, true);
            bus.listen(5, aim / 256, true);
            bus.address(6, aim);
            Checks.sayByDisturbing(bus, Checks.telegram(176, 9, aim, 128, 5));
            bus.run(28);
            Checks.due("group " + aim, bus.answer(), BusTelegrams.NONE);
        }
    }

    /** Characters of 255 behind its own telegram put T off by 13: T + 14 is 14, 27, 40 behind its last bit. */
    private static void noneThatWaits() {
        int[] answers = {BusTelegrams.NONE, BusTelegrams.NONE, 12};
        for (int more = 0; more <= 2; more++) {
            BusTelegrams bus = saidTo(0);
            for (int i = 0; i < more; i++) {
                Checks.play(bus, "11" + Checks.bits(255));
            }
            bus.run(28);
            Checks.dueHeard(more + " more", bus, 1, more == 0 ? 1 : 0, 0, 0, more == 2 ? 1 : 0);
            Checks.due(more + " more: its own answer", bus.answer(), answers[more]);
        }
        // All that say the same wait; the others that it is meant for do not.
        for (int silent = 0; silent < 8; silent++) {
            BusTelegrams bus = new BusTelegrams();
            for (int s = 0; s < 8; s++) {
                bus.address(s, 500);
                if (s != silent) {
                    bus.send(s, 0, 500, false, 1, 0);
                }
            }
            bus.run(130);
            Checks.due("all wait but " + silent, bus.answer(), 204);
            Checks.due("SAID by another", bus.station(7 - silent, 3), 1);
            Checks.due("not by that one", bus.station(silent, 3), 0);
        }
    }

    private static void isTwelveIfNotRight() {
        int[] right = Checks.telegram(176, 9, 3, 0, 5);
        int[] wrongCheck = right.clone();
        wrongCheck[7] ^= 1;
        int[][] telegrams = {right, wrongCheck, Checks.telegram(176, 9, 3, 1, 5), Checks.telegram(176, 9, 3, 0, 5, 6)};
        for (int i = 0; i < 4; i++) {
            for (int busy = 0; busy <= 1; busy++) {
                BusTelegrams bus = new BusTelegrams();
                bus.busy(3, busy == 1);
                Checks.sayByDisturbing(bus, telegrams[i]);
                bus.run(27);
                int want = i > 0 ? 12 : busy == 1 ? 192 : 204;
                Checks.due("telegram " + i + ", busy " + busy, bus.answer(), want);
                Checks.due("answers 204", bus.heard(3), want == 204 ? 1 : 0);
                Checks.due("other answers", bus.heard(4), want == 204 ? 0 : 1);
            }
        }
    }

    private static void isByBusyInThatBitTime() {
        for (int late = 0; late <= 1; late++) {
            BusTelegrams bus = saidTo(1);
            bus.run(13 + late);
            bus.busy(1, true);
            bus.run(15 - late);
            Checks.due("busy from T + " + (14 + late) + " on", bus.answer(), late == 0 ? 192 : 204);

            BusTelegrams free = saidTo(1);
            free.busy(1, true);
            free.run(13 + late);
            free.busy(1, false);
            free.run(15 - late);
            Checks.due("free from T + " + (14 + late) + " on", free.answer(), late == 0 ? 204 : 192);

            BusTelegrams listener = new BusTelegrams();
            listener.send(0, 0, 50, true, 1, 0);
            listener.run(LENGTH + 13 + late);
            listener.listen(1, 50, true);
            listener.run(15 - late);
            int want = late == 0 ? 204 : BusTelegrams.NONE;
            Checks.due("listens from T + " + (14 + late) + " on", listener.answer(), want);
        }
    }

    private static void allSendTogether() {
        for (int busy = 0; busy <= 7; busy++) {
            BusTelegrams bus = new BusTelegrams();
            for (int s = 1; s < 8; s++) {
                bus.listen(s, 50, true);
                bus.busy(s, s <= busy);
            }
            bus.busy(0, true);
            bus.send(0, 0, 50, true, 1, 0);
            bus.run(130);
            Checks.due(busy + " of seven busy", bus.answer(), busy == 0 ? 204 : 192);
            Checks.due("one answer", bus.heard(3) + bus.heard(4), 1);
        }
    }

    private static void isSentWholly() {
        String answer = Checks.bits(204);
        for (int bit = 0; bit < 11; bit++) {
            BusTelegrams bus = saidTo(1);
            bus.disturb(14 + bit);
            bus.run(13);
            String want = answer.substring(0, bit) + "0" + answer.substring(bit + 1);
            Checks.dueLine("disturbed in bit " + bit, Checks.lineOf(bus, 14), want + "111");
            Checks.dueFacts("who answers does not stop", bus, 1, 0, 0, 0, 0, 0, 0);
        }
        BusTelegrams all = saidTo(1);
        for (int bit = 0; bit < 11; bit++) {
            all.disturb(14 + bit);
        }
        all.run(13);
        Checks.dueLine("disturbed in all bits", Checks.lineOf(all, 14), "0".repeat(11) + "111");
        Checks.dueFacts("who answers does not stop", all, 1, 0, 0, 0, 0, 0, 0);
        Checks.due("a bad one", all.answer(), BusTelegrams.NONE);
    }
}
