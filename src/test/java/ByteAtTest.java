/** Promise 11: byte i of the latest telegram that was heard. */
public final class ByteAtTest {
    public static void main(String[] args) {
        BusTelegrams bus = new BusTelegrams();
        Checks.illegalArgument("byteAt(0) of none", () -> bus.byteAt(0));
        bus.send(4, 1, 60, false, 14, 100);
        bus.run(273);
        Checks.illegalArgument("byteAt(0) before it is complete", () -> bus.byteAt(0));
        bus.run(1);
        int[] data = {100, 101, 102, 103, 104, 105, 106, 107, 108, 109, 110, 111, 112, 113};
        Checks.dueBytes("21 bytes", bus, Checks.telegram(180, 4, 60, 13, data));
        for (int bad : new int[] {-1, 21, 600, Integer.MIN_VALUE, Integer.MAX_VALUE}) {
            Checks.illegalArgument("byteAt(" + bad + ")", () -> bus.byteAt(bad));
        }
        Checks.runFor(bus, 1300);
        Checks.due("LOST", bus.station(4, 4), 1);
        Checks.dueBytes("said before", bus, Checks.telegram(148, 4, 60, 13, data));

        bus.send(1, 0, 2, false, 1, 7);
        bus.run(40);
        Checks.due("as long as the next is not complete", bus.byteAt(20), Checks.telegram(148, 4, 60, 13, data)[20]);
        bus.run(300);
        Checks.dueBytes("a shorter one", bus, Checks.telegram(176, 1, 2, 0, 7));

        // Noise does not change it, a telegram that is not right does.
        bus.disturb(1);
        bus.run(30);
        Checks.dueBytes("behind noise", bus, Checks.telegram(176, 1, 2, 0, 7));
        bus.run(60);
        Checks.sayByDisturbing(bus, 1, 2, 3, 4, 5, 6, 7, 8, 9);
        bus.run(3);
        Checks.dueBytes("not right", bus, 1, 2, 3, 4, 5, 6, 7, 8, 9);
        Checks.finish();
    }
}
