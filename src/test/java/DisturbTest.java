/** Promise 6: the line is disturbed in a bit time that is to come. */
public final class DisturbTest {
    public static void main(String[] args) {
        refusesWhatIsOutside();
        refusesTheFiftyFirst();
        isZeroInJustThatBitTime();
        stopsWhoSendsOne();
        Checks.finish();
    }

    private static void refusesWhatIsOutside() {
        BusTelegrams bus = new BusTelegrams();
        for (int bad : new int[] {0, -1, 2001, Integer.MIN_VALUE, Integer.MAX_VALUE}) {
            Checks.illegalArgument("disturb(" + bad + ")", () -> bus.disturb(bad));
        }
        Checks.due("disturb(1)", bus.disturb(1), true);
        Checks.due("disturb(2000)", bus.disturb(2000), true);
        Checks.due("disturb(1) again", bus.disturb(1), false);
        Checks.due("disturb(2000) again", bus.disturb(2000), false);
        bus.run(1);
        Checks.due("disturb(1) of the next", bus.disturb(1), true);
        Checks.due("disturb(1999) of the same", bus.disturb(1999), false);
        Checks.due("disturb(2000) of the next", bus.disturb(2000), true);
    }

    private static void refusesTheFiftyFirst() {
        BusTelegrams bus = new BusTelegrams();
        for (int i = 1; i <= 50; i++) {
            Checks.due("disturb " + i, bus.disturb(3 * i), true);
            if (i < 50) {
                Checks.due("disturb " + i + " again", bus.disturb(3 * i), false);
            }
        }
        Checks.illegalState("disturb 51", () -> bus.disturb(2000));
        Checks.illegalState("disturb what was told, with 50", () -> bus.disturb(3));
        Checks.illegalArgument("disturb(2001) with 50", () -> bus.disturb(2001));
        bus.run(2);
        Checks.illegalState("none has been yet", () -> bus.disturb(2000));
        bus.run(1);
        Checks.due("one has been", bus.disturb(2000), true);
        Checks.illegalState("50 again", () -> bus.disturb(1999));
        bus.run(147);
        for (int i = 1; i <= 49; i++) {
            Checks.due("all but one have been " + i, bus.disturb(i), true);
        }
        Checks.illegalState("50 once more", () -> bus.disturb(1000));
    }

    private static void isZeroInJustThatBitTime() {
        BusTelegrams bus = new BusTelegrams();
        bus.disturb(2000);
        bus.disturb(5);
        Checks.dueLine("line", Checks.lineOf(bus, 10), "1111011111");
        Checks.runFor(bus, 1989);
        Checks.due("before 2000", bus.bit(0), 1);
        bus.run(1);
        Checks.due("2000", bus.bit(0), 0);
        bus.run(1);
        Checks.due("behind 2000", bus.bit(0), 1);
        Checks.runFor(bus, 60);
        Checks.due("not again behind 2048 more", bus.bit(0), 1);
        bus.run(2000);
        Checks.due("heard nothing but the two", bus.heard(2), 2);
        Checks.dueLine("idle later", Checks.lineOf(bus, 200), Checks.ones(200));
    }

    private static void stopsWhoSendsOne() {
        BusTelegrams bus = new BusTelegrams();
        bus.send(0, 0, 1, false, 1, 0);
        // The first bit of a telegram is a 0 and the last one of its first character a 1.
        bus.disturb(1);
        bus.disturb(11);
        bus.run(10);
        Checks.due("a 0 is not disturbed", bus.station(0, 1), 1);
        bus.run(1);
        Checks.due("stopped", bus.station(0, 5), 1);
        Checks.due("says nothing", bus.station(0, 1), 0);
        Checks.due("is in the queue", bus.station(0, 0), 1);
        Checks.dueLine("pause", Checks.lineOf(bus, 50), "1".repeat(50));
        String whole = Checks.bits(Checks.telegram(176, 0, 1, 0, 0));
        Checks.dueLine("from the first bit", Checks.lineOf(bus, 102), whole);
        bus.run(28);
        Checks.due("noise", bus.heard(2), 1);
        Checks.due("SAID", bus.station(0, 3), 1);

        BusTelegrams last = new BusTelegrams();
        last.send(0, 3, 1, false, 1, 0);
        last.disturb(102);
        last.run(102);
        Checks.due("stopped at the last bit", last.station(0, 5), 1);
        Checks.due("does not wait", last.station(0, 2), 0);
        Checks.dueLine("pause for a first time", Checks.lineOf(last, 53), "1".repeat(53));
        String first = Checks.bits(Checks.telegram(188, 0, 1, 0, 0));
        Checks.dueLine("that was no saying", Checks.lineOf(last, 102), first);

        BusTelegrams gap = new BusTelegrams();
        gap.send(0, 0, 1, false, 1, 0);
        gap.disturb(13);
        gap.run(13);
        Checks.due("stopped between characters", gap.station(0, 5), 1);
    }
}
