/** Terms, the look in bit time T + 28: a test for each sentence, with three sayings and with four. */
public final class WaitingTermTest {
    private static final int LENGTH = 102;

    public static void main(String[] args) {
        looksInTwentyEight();
        isSaidWithTwoHundredAndFour();
        isToBeSaidAgainWithAnyOther();
        isToBeSaidAgainWithoutOne();
        looksAtTheTelegramOfThatTimeOnly();
        looksNotAtAnOlderOne();
        isSaidWithTheFourthSayingToo();
        isLostBehindTheFourthSaying();
        isGoneWhenSaidOrLost();
        looksForEachThatWaits();
        Checks.finish();
    }

    private static BusTelegrams saidTo(int aim) {
        BusTelegrams bus = new BusTelegrams();
        bus.send(0, 0, aim, false, 1, 0);
        bus.run(LENGTH);
        return bus;
    }

    private static void looksInTwentyEight() {
        BusTelegrams bus = saidTo(1);
        bus.run(27);
        Checks.due("the answer is there", bus.answer(), 204);
        Checks.dueFacts("T + 27", bus, 0, 1, 0, 1, 0, 0, 0);
        bus.run(1);
        Checks.dueFacts("T + 28", bus, 0, 0, 0, 0, 1, 0, 0);

        BusTelegrams again = saidTo(99);
        again.run(27);
        Checks.dueFacts("no answer, T + 27", again, 0, 1, 0, 1, 0, 0, 0);
        again.run(1);
        Checks.dueFacts("no answer, T + 28", again, 0, 1, 0, 0, 0, 0, 0);
    }

    private static void isSaidWithTwoHundredAndFour() {
        for (int priority = 0; priority < 4; priority++) {
            for (int n = 1; n <= 14; n += 13) {
                BusTelegrams bus = new BusTelegrams();
                bus.send(4, priority, 1, false, n, 200);
                bus.run(13 * (7 + n) - 2 + 28);
                Checks.dueFacts("SAID, n " + n, bus, 4, 0, 0, 0, 1, 0, 0);
            }
        }
    }

    private static void isToBeSaidAgainWithAnyOther() {
        for (int b : new int[] {0, 12, 192, 200, 203, 205, 220, 255, 204}) {
            BusTelegrams bus = saidTo(99);
            Checks.play(bus, Checks.ones(13) + Checks.bits(b) + "1111");
            Checks.due("answer " + b, bus.answer(), b);
            int said = b == 204 ? 1 : 0;
            Checks.dueFacts("answer " + b, bus, 0, 1 - said, 0, 0, said, 0, 0);
        }
        BusTelegrams bus = new BusTelegrams();
        bus.busy(1, true);
        bus.send(0, 3, 1, false, 1, 9);
        bus.run(LENGTH + 28);
        Checks.dueFacts("busy", bus, 0, 1, 0, 0, 0, 0, 0);
        // The answer's latest 0 is in T + 23.
        bus.run(44);
        Checks.dueLine("again", Checks.lineOf(bus, LENGTH + 1), "1" + Checks.bits(Checks.telegram(156, 0, 1, 0, 9)));
    }

    private static void isToBeSaidAgainWithoutOne() {
        String[] behind = {
            Checks.ones(28),
            Checks.ones(12) + Checks.bits(204) + "11111",
            Checks.ones(14) + Checks.bits(204) + "111",
            Checks.ones(13) + Checks.bits(204) + "110" + "1",
            Checks.ones(13) + "00011001111" + "1111"
        };
        for (int i = 0; i < behind.length; i++) {
            BusTelegrams bus = saidTo(99);
            Checks.play(bus, behind[i]);
            Checks.due("none " + i, bus.answer(), BusTelegrams.NONE);
            Checks.dueFacts("none " + i, bus, 0, 1, 0, 0, 0, 0, 0);
            Checks.due("said once " + i, bus.heard(0), 1);
        }
        // A 0 in T + 25 or T + 26, or none in T + 27, and it is complete in good time.
        for (String end : new String[] {"0111", "1011", "1110", "1111"}) {
            BusTelegrams bus = saidTo(99);
            Checks.play(bus, Checks.ones(13) + Checks.bits(204) + end);
            Checks.due("complete with " + end, bus.answer(), 204);
            Checks.dueFacts("complete with " + end, bus, 0, 0, 0, 0, 1, 0, 0);
        }
    }

    /** A character more, and the latest telegram ended 13 later: its answer is not yet complete. */
    private static void looksAtTheTelegramOfThatTimeOnly() {
        BusTelegrams bus = saidTo(99);
        Checks.play(bus, "11" + Checks.bits(255) + Checks.ones(13));
        Checks.dueFacts("T + 26", bus, 0, 1, 0, 1, 0, 0, 0);
        Checks.play(bus, Checks.bits(204) + "111");
        Checks.due("an answer to the longer one", bus.answer(), 204);
        Checks.dueFacts("not to its own", bus, 0, 1, 0, 0, 0, 0, 0);
    }

    /** The first telegram has its 204; the second is only noise, for a bad character behind it. */
    private static void looksNotAtAnOlderOne() {
        BusTelegrams bus = new BusTelegrams();
        bus.send(0, 0, 1, false, 1, 0);
        bus.send(0, 0, 1, false, 1, 1);
        bus.run(LENGTH + 28);
        Checks.dueFacts("the first one", bus, 0, 1, 0, 0, 1, 0, 0);
        bus.run(45 + LENGTH);
        Checks.dueFacts("the second one", bus, 0, 1, 0, 1, 1, 0, 0);
        Checks.play(bus, "110" + Checks.ones(25));
        Checks.dueHeard("noise", bus, 1, 1, 1, 1, 0);
        Checks.due("the first one's answer", bus.answer(), 204);
        Checks.dueFacts("is to be said again", bus, 0, 1, 0, 0, 1, 0, 0);
        bus.run(300);
        Checks.dueFacts("SAID later", bus, 0, 0, 0, 0, 2, 0, 0);
        Checks.dueBytes("said before", bus, Checks.telegram(144, 0, 1, 0, 1));
    }

    /** To 99 it is said in 1 .. 102, 151 .. 252, 302 .. 403 and 453 .. 554. */
    private static final int[] ENDS = {102, 252, 403, 554};

    private static void isSaidWithTheFourthSayingToo() {
        for (int times = 1; times <= 4; times++) {
            BusTelegrams bus = new BusTelegrams();
            bus.send(0, 0, 99, false, 1, 0);
            bus.run(ENDS[times - 1]);
            bus.address(5, 99);
            bus.run(27);
            Checks.dueFacts("saying " + times + ", T + 27", bus, 0, 1, 0, 1, 0, 0, 0);
            bus.run(1);
            Checks.dueFacts("saying " + times + ", T + 28", bus, 0, 0, 0, 0, 1, 0, 0);
            bus.run(300);
            Checks.due("no more sayings than " + times, bus.heard(0), times);
        }
    }

    private static void isLostBehindTheFourthSaying() {
        BusTelegrams bus = new BusTelegrams();
        bus.send(0, 0, 99, false, 1, 0);
        int now = 0;
        for (int times = 1; times <= 4; times++) {
            bus.run(ENDS[times - 1] - now);
            Checks.dueFacts("saying " + times + ", T", bus, 0, 1, 0, 1, 0, 0, 0);
            bus.run(27);
            Checks.dueFacts("saying " + times + ", T + 27", bus, 0, 1, 0, 1, 0, 0, 0);
            bus.run(1);
            boolean lost = times == 4;
            Checks.dueFacts("saying " + times + ", T + 28", bus, 0, lost ? 0 : 1, 0, 0, 0, lost ? 1 : 0, 0);
            Checks.due("heard", bus.heard(0), times);
            now = ENDS[times - 1] + 28;
        }
        Checks.dueLine("nothing more", Checks.lineOf(bus, 100), Checks.ones(100));

        // Busy each time: an answer that is not 204 is no better than none.
        BusTelegrams busy = new BusTelegrams();
        busy.busy(1, true);
        busy.send(0, 0, 1, false, 1, 0);
        busy.run(102 + 3 * (23 + 50 + 102) + 27);
        Checks.dueFacts("busy, T + 27 of the fourth", busy, 0, 1, 0, 1, 0, 0, 0);
        busy.run(1);
        Checks.dueFacts("busy, T + 28 of the fourth", busy, 0, 0, 0, 0, 0, 1, 0);
        Checks.dueHeard("busy", busy, 4, 4, 0, 0, 4);
    }

    private static void isGoneWhenSaidOrLost() {
        BusTelegrams said = new BusTelegrams();
        said.send(0, 2, 1, false, 1, 7);
        said.send(0, 2, 1, false, 1, 8);
        said.run(LENGTH + 28);
        Checks.due("gone when SAID", said.station(0, 0), 1);
        // 5 of the 53 bit times are over, for the answer's latest 0 was in T + 23.
        said.run(48);
        Checks.dueLine("the next one", Checks.lineOf(said, LENGTH), Checks.bits(Checks.telegram(184, 0, 1, 0, 8)));

        BusTelegrams lost = new BusTelegrams();
        lost.send(0, 0, 99, false, 1, 0);
        lost.send(0, 2, 99, false, 1, 8);
        lost.run(554 + 28);
        Checks.dueFacts("gone when LOST", lost, 0, 1, 0, 0, 0, 1, 0);
        int ones = Checks.onesAtTheEnd(Checks.bits(Checks.telegram(144, 0, 99, 0, 0)));
        lost.run(53 - 28 - ones);
        String next = Checks.bits(Checks.telegram(184, 0, 99, 0, 8));
        Checks.dueLine("for the first time", Checks.lineOf(lost, LENGTH), next);
    }

    /** Two that say the same look at the same answer, each with its own count of sayings. */
    private static void looksForEachThatWaits() {
        BusTelegrams bus = new BusTelegrams();
        bus.address(0, 500);
        bus.address(1, 500);
        bus.send(0, 0, 99, false, 1, 0);
        bus.run(400);
        // 0 says it for the third time then; 1 begins beside its fourth, which has the lesser control.
        bus.send(1, 0, 99, false, 1, 0);
        bus.run(182);
        Checks.due("0 has LOST it", bus.station(0, 4), 1);
        Checks.due("1 stopped: it was not said before", bus.station(1, 5), 1);
        Checks.due("1 does not wait", bus.station(1, 2), 0);

        BusTelegrams both = new BusTelegrams();
        both.address(0, 500);
        both.address(1, 500);
        both.send(0, 0, 2, false, 1, 0);
        both.send(1, 0, 2, false, 1, 0);
        both.send(1, 0, 2, false, 1, 1);
        both.run(LENGTH + 27);
        Checks.dueFacts("0 in T + 27", both, 0, 1, 0, 1, 0, 0, 0);
        Checks.dueFacts("1 in T + 27", both, 1, 2, 0, 1, 0, 0, 0);
        both.run(1);
        Checks.dueFacts("0 in T + 28", both, 0, 0, 0, 0, 1, 0, 0);
        Checks.dueFacts("1 in T + 28", both, 1, 1, 0, 0, 1, 0, 0);
    }
}
