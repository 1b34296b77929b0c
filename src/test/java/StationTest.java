/** Promise 9: what can be told of a station. */
public final class StationTest {
    public static void main(String[] args) {
        refusesWhatIsOutside();
        tellsOfASaying();
        idleCounts();
        acceptsOnlyTheAnswerToItsOwn();
        Checks.finish();
    }

    private static void refusesWhatIsOutside() {
        BusTelegrams bus = new BusTelegrams();
        for (int bad : new int[] {-1, 8, Integer.MIN_VALUE, Integer.MAX_VALUE}) {
            Checks.illegalArgument("station(" + bad + ", 0)", () -> bus.station(bad, 0));
        }
        for (int bad : new int[] {-1, 6, Integer.MIN_VALUE, Integer.MAX_VALUE}) {
            Checks.illegalArgument("station(0, " + bad + ")", () -> bus.station(0, bad));
        }
    }

    private static void tellsOfASaying() {
        BusTelegrams bus = new BusTelegrams();
        bus.send(6, 0, 2, false, 1, 0);
        Checks.dueFacts("told", bus, 6, 1, 0, 0, 0, 0, 0);
        bus.run(1);
        Checks.dueFacts("first bit", bus, 6, 1, 1, 0, 0, 0, 0);
        bus.run(100);
        Checks.dueFacts("last bit but one", bus, 6, 1, 1, 0, 0, 0, 0);
        bus.run(1);
        Checks.dueFacts("last bit", bus, 6, 1, 0, 1, 0, 0, 0);
        bus.run(14);
        // Answering is no saying.
        Checks.dueFacts("answering", bus, 2, 0, 0, 0, 0, 0, 0);
        bus.run(13);
        Checks.dueFacts("T + 27", bus, 6, 1, 0, 1, 0, 0, 0);
        bus.run(1);
        Checks.dueFacts("T + 28", bus, 6, 0, 0, 0, 1, 0, 0);
        bus.run(300);
        Checks.dueFacts("later", bus, 6, 0, 0, 0, 1, 0, 0);

        bus.send(6, 0, 60000, false, 1, 0);
        bus.run(103);
        Checks.dueFacts("waits", bus, 6, 1, 0, 1, 1, 0, 0);
        bus.run(27);
        Checks.dueFacts("is to say it again", bus, 6, 1, 0, 0, 1, 0, 0);
        Checks.runFor(bus, 600);
        Checks.dueFacts("has LOST it", bus, 6, 0, 0, 0, 1, 1, 0);
    }

    private static void idleCounts() {
        for (int priority = 0; priority < 4; priority++) {
            BusTelegrams bus = new BusTelegrams();
            bus.disturb(1);
            bus.run(1);
            bus.send(0, priority, 1, false, 1, 0);
            int needed = priority >= 2 ? 53 : 50;
            bus.run(needed);
            Checks.due("not yet, priority " + priority, bus.station(0, 1), 0);
            bus.run(1);
            Checks.due("begins, priority " + priority, bus.station(0, 1), 1);
        }
        // With 50 the lesser priority begins alone, though the other was told before.
        BusTelegrams bus = new BusTelegrams();
        bus.disturb(1);
        bus.run(1);
        bus.send(0, 2, 1, false, 1, 0);
        bus.send(1, 1, 2, false, 1, 0);
        bus.run(51);
        Checks.due("0 is late", bus.station(0, 1), 0);
        Checks.due("1 begins", bus.station(1, 1), 1);
        bus.run(600);
        Checks.due("0 never stopped", bus.station(0, 5), 0);
        Checks.due("0 SAID", bus.station(0, 3), 1);
    }

    /** A character more behind the last one: the telegram ends later, and is not right. */
    private static void acceptsOnlyTheAnswerToItsOwn() {
        BusTelegrams bus = new BusTelegrams();
        bus.send(0, 0, 1, false, 1, 0);
        bus.disturb(105);
        bus.disturb(114);
        bus.run(118);
        Checks.dueBytes("longer", bus, 176, 0, 0, 0, 1, 0, 0, 78, 255);
        Checks.due("not right", bus.heard(1), 0);
        bus.run(11);
        Checks.due("waits", bus.station(0, 2), 1);
        bus.run(1);
        Checks.due("waits no more", bus.station(0, 2), 0);
        Checks.due("is to be said again", bus.station(0, 0), 1);
        bus.run(12);
        Checks.due("answer", bus.answer(), 12);
        bus.run(160);
        Checks.due("said before", bus.byteAt(0), 144);

        // The same with two characters more, to itself: it waits no more, and answers.
        BusTelegrams own = new BusTelegrams();
        own.send(0, 0, 0, false, 1, 0);
        for (int behind : new int[] {105, 114, 118, 127}) {
            own.disturb(behind);
        }
        own.run(128 + 28);
        Checks.due("answers itself", own.answer(), 12);
        Checks.due("other answers", own.heard(4), 1);

        BusTelegrams deaf = new BusTelegrams();
        deaf.send(0, 0, 0, false, 1, 0);
        deaf.run(130);
        Checks.due("who waits does not answer", deaf.answer(), BusTelegrams.NONE);
        deaf.address(1, 0);
        deaf.run(200);
        Checks.due("another does", deaf.answer(), 204);
    }
}
