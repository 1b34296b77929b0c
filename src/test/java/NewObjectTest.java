/** Promise 1: a line with eight stations, nothing said. */
public final class NewObjectTest {
    public static void main(String[] args) {
        Checks.due("NONE", BusTelegrams.NONE, -1);
        BusTelegrams bus = new BusTelegrams();
        dueEmpty(bus, "new");
        for (int s = 0; s < 8; s++) {
            Checks.due("address at first of " + s, bus.address(s, s), s);
            Checks.due("busy at first of " + s, bus.busy(s, false), false);
        }
        Checks.illegalArgument("bit(0) of none", () -> bus.bit(0));
        Checks.dueLine("an empty line", Checks.lineOf(bus, 100), Checks.ones(100));
        dueEmpty(bus, "idle");
        for (int s = 0; s < 8; s++) {
            BusTelegrams silent = new BusTelegrams();
            for (int g = 0; g < 256; g++) {
                Checks.due("listen at first of " + s + " to " + g, silent.listen(s, g, false), false);
            }
        }

        BusTelegrams one = new BusTelegrams();
        BusTelegrams other = new BusTelegrams();
        one.send(0, 0, 1, false, 1, 0);
        one.address(3, 99);
        one.disturb(7);
        one.run(300);
        dueEmpty(other, "beside a used one");
        Checks.due("address beside a used one", other.address(3, 4), 3);
        Checks.due("run beside a used one", other.run(1), 1);
        Checks.finish();
    }

    private static void dueEmpty(BusTelegrams bus, String when) {
        for (int s = 0; s < 8; s++) {
            for (int what = 0; what < 6; what++) {
                Checks.due(when + ": station(" + s + ", " + what + ")", bus.station(s, what), 0);
            }
        }
        for (int what = 0; what < 5; what++) {
            Checks.due(when + ": heard(" + what + ")", bus.heard(what), 0);
        }
        Checks.due(when + ": answer()", bus.answer(), BusTelegrams.NONE);
        Checks.illegalArgument(when + ": byteAt(0)", () -> bus.byteAt(0));
    }
}
