/** Promise 12: the answer to the latest telegram that was heard. */
public final class AnswerTest {
    public static void main(String[] args) {
        isThereBehindTheAnswer();
        goesWithTheNextTelegram();
        allAnswerTogether();
        isSentWhateverTheLineIs();
        mayBeAnyCharacter();
        Checks.finish();
    }

    private static void isThereBehindTheAnswer() {
        BusTelegrams bus = new BusTelegrams();
        Checks.due("of none", bus.answer(), BusTelegrams.NONE);
        bus.send(0, 0, 1, false, 1, 0);
        bus.run(115);
        Checks.due("T + 13", bus.answer(), BusTelegrams.NONE);
        Checks.dueLine("T + 14 ..", Checks.lineOf(bus, 13), Checks.bits(204) + "11");
        Checks.due("T + 26", bus.answer(), BusTelegrams.NONE);
        bus.run(1);
        Checks.due("T + 27", bus.answer(), 204);
    }

    private static void goesWithTheNextTelegram() {
        BusTelegrams bus = new BusTelegrams();
        bus.send(0, 0, 1, false, 1, 0);
        bus.run(130);
        bus.send(0, 0, 99, false, 1, 0);
        // The answer's last 0 was in 125, so the next begins in 176 and ends in 277.
        bus.run(149);
        Checks.due("the next is not complete", bus.answer(), 204);
        bus.run(1);
        Checks.due("the next is complete", bus.answer(), BusTelegrams.NONE);
        Checks.runFor(bus, 700);
        Checks.due("LOST", bus.station(0, 4), 1);
        Checks.due("nobody answered", bus.answer(), BusTelegrams.NONE);
        Checks.due("answers", bus.heard(3), 1);
    }

    private static void allAnswerTogether() {
        BusTelegrams bus = new BusTelegrams();
        for (int s = 0; s < 8; s++) {
            bus.address(s, 30000);
        }
        bus.send(2, 0, 30000, false, 1, 0);
        bus.run(130);
        Checks.due("all but the sender", bus.answer(), 204);
        bus.busy(2, true);
        bus.send(3, 0, 30000, false, 1, 0);
        bus.run(200);
        Checks.due("one of them is busy", bus.answer(), 192);
        Checks.due("answers 204", bus.heard(3), 1);
        Checks.due("other answers", bus.heard(4), 1);
    }

    private static void isSentWhateverTheLineIs() {
        // 204 without its bits of 4 (in T + 17) and 64 (in T + 21) is 136, and the parity still holds.
        BusTelegrams bus = new BusTelegrams();
        bus.send(0, 0, 1, false, 1, 0);
        bus.disturb(102 + 17);
        bus.disturb(102 + 21);
        bus.run(130);
        Checks.due("disturbed to 136", bus.answer(), 136);
        Checks.due("other answers", bus.heard(4), 1);
        Checks.due("not SAID", bus.station(0, 3), 0);
        Checks.due("who answers does not stop", bus.station(1, 5), 0);

        BusTelegrams bad = new BusTelegrams();
        bad.send(0, 0, 1, false, 1, 0);
        bad.disturb(102 + 17);
        Checks.dueLine("line", Checks.lineOf(bad, 126).substring(115), "00001001101");
        bad.run(4);
        Checks.due("a bad answer", bad.answer(), BusTelegrams.NONE);
        Checks.due("is noise", bad.heard(2), 1);
        Checks.due("is said again", bad.station(0, 0), 1);

        BusTelegrams longer = new BusTelegrams();
        longer.send(0, 0, 1, false, 1, 0);
        longer.disturb(102 + 27);
        longer.run(130);
        Checks.due("a character more", longer.answer(), BusTelegrams.NONE);
        Checks.due("T + 28 is past", longer.station(0, 2), 0);
        Checks.due("not SAID", longer.station(0, 3), 0);
        longer.run(30);
        Checks.due("no answer later", longer.answer(), BusTelegrams.NONE);
        Checks.due("noise", longer.heard(2), 1);

        BusTelegrams shorter = new BusTelegrams();
        shorter.send(0, 0, 1, false, 1, 0);
        shorter.disturb(102 + 25);
        shorter.run(127);
        Checks.due("complete with a 0", shorter.answer(), 204);
        shorter.run(3);
        Checks.due("SAID", shorter.station(0, 3), 1);
    }

    private static void mayBeAnyCharacter() {
        BusTelegrams bus = new BusTelegrams();
        bus.send(0, 0, 99, false, 1, 0);
        bus.disturb(102 + 14);
        bus.disturb(102 + 23);
        bus.run(130);
        Checks.due("nobody's 255", bus.answer(), 255);
        Checks.due("other answers", bus.heard(4), 1);

        for (int off : new int[] {-1, 1}) {
            BusTelegrams late = new BusTelegrams();
            late.send(0, 0, 99, false, 1, 0);
            late.disturb(102 + 14 + off);
            late.disturb(102 + 23 + off);
            late.run(140);
            Checks.due("not in T + 14", late.answer(), BusTelegrams.NONE);
            Checks.due("noise", late.heard(2), 1);
        }

        // A 204 by disturbing is as good as any.
        BusTelegrams forged = new BusTelegrams();
        forged.send(0, 0, 99, false, 1, 0);
        forged.run(115);
        Checks.sayByDisturbing(forged, 204);
        forged.run(4);
        Checks.due("forged", forged.answer(), 204);
        Checks.due("SAID", forged.station(0, 3), 1);
    }
}
