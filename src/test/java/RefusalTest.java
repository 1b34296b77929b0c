/** Illegal argument, illegal state, which of them comes first, and that a call that throws changes nothing. */
public final class RefusalTest {
    private static final int[] FAR = {Integer.MIN_VALUE, -65536, -256, -2, -1, Integer.MAX_VALUE};

    public static void main(String[] args) {
        refusesNumbersOutsideTheirBounds();
        takesNumbersAtTheirBounds();
        sendRefusesArgumentsBeforeState();
        disturbRefusesArgumentsBeforeState();
        runRefusesArgumentsBeforeState();
        settingsStayWhenRefused();
        queueStaysWhenRefused();
        lineStaysWhenRefused();
        timeStaysWhenRefused();
        allStaysWhenRefused();
        Checks.finish();
    }

    private interface With {
        void call(int number);
    }

    /** Both numbers next to the bounds, and some far from them. */
    private static void dueOutside(String call, int least, int most, With with) {
        Checks.illegalArgument(call + " with " + (least - 1), () -> with.call(least - 1));
        Checks.illegalArgument(call + " with " + (most + 1), () -> with.call(most + 1));
        for (int far : FAR) {
            Checks.illegalArgument(call + " with " + far, () -> with.call(far));
        }
    }

    private static void refusesNumbersOutsideTheirBounds() {
        BusTelegrams bus = new BusTelegrams();
        dueOutside("address, station", 0, 7, i -> bus.address(i, 0));
        dueOutside("address, address", 0, 65535, i -> bus.address(0, i));
        dueOutside("listen, station", 0, 7, i -> bus.listen(i, 0, true));
        dueOutside("listen, group", 0, 255, i -> bus.listen(0, i, false));
        dueOutside("busy, station", 0, 7, i -> bus.busy(i, true));
        dueOutside("send, station", 0, 7, i -> bus.send(i, 0, 0, false, 1, 0));
        dueOutside("send, priority", 0, 3, i -> bus.send(0, i, 0, false, 1, 0));
        dueOutside("send, address", 0, 65535, i -> bus.send(0, 0, i, false, 1, 0));
        dueOutside("send, group", 0, 255, i -> bus.send(0, 0, i, true, 1, 0));
        dueOutside("send, n", 1, 14, i -> bus.send(0, 0, 0, false, i, 0));
        dueOutside("send, n to a group", 1, 14, i -> bus.send(0, 0, 0, true, i, 0));
        dueOutside("send, b", 0, 255, i -> bus.send(0, 0, 0, false, 1, i));
        dueOutside("disturb", 1, 2000, bus::disturb);
        dueOutside("run", 1, 2000, bus::run);
        dueOutside("station, station", 0, 7, i -> bus.station(i, 0));
        dueOutside("station, what", 0, 5, i -> bus.station(0, i));
        dueOutside("heard", 0, 4, bus::heard);
        dueOutside("unpack", 0, 65535, bus::unpack);
        // Of no bit times and no telegram there is not even the first.
        dueOutside("bit of none", 0, -1, bus::bit);
        dueOutside("byteAt of none", 0, -1, bus::byteAt);
        Checks.due("no bit time was", bus.run(1), 1);
        dueOutside("bit of one", 0, 0, bus::bit);
        bus.run(62);
        dueOutside("bit of 63", 0, 62, bus::bit);
        bus.run(1);
        dueOutside("bit of 64", 0, 63, bus::bit);
        bus.run(1);
        dueOutside("bit of 65", 0, 63, bus::bit);
        for (int n : new int[] {1, 14}) {
            BusTelegrams heard = new BusTelegrams();
            heard.send(0, 0, 1, false, n, 0);
            heard.run(13 * (n + 7));
            dueOutside("byteAt before it is complete", 0, -1, heard::byteAt);
            heard.run(1);
            dueOutside("byteAt with n " + n, 0, n + 6, heard::byteAt);
        }
    }

    private static void takesNumbersAtTheirBounds() {
        BusTelegrams bus = new BusTelegrams();
        Checks.due("address(0, 0)", bus.address(0, 0), 0);
        Checks.due("address(7, 65535)", bus.address(7, 65535), 7);
        Checks.due("listen(0, 0, true)", bus.listen(0, 0, true), false);
        Checks.due("listen(7, 255, true)", bus.listen(7, 255, true), false);
        Checks.due("busy(0, false)", bus.busy(0, false), false);
        Checks.due("busy(7, false)", bus.busy(7, false), false);
        Checks.due("send, all least", bus.send(0, 0, 0, false, 1, 0), 1);
        Checks.due("send, all most", bus.send(7, 3, 65535, false, 14, 255), 1);
        Checks.due("send to the least group", bus.send(0, 0, 0, true, 1, 0), 2);
        Checks.due("send to the greatest group", bus.send(7, 3, 255, true, 14, 255), 2);
        Checks.due("disturb(1)", bus.disturb(1), true);
        Checks.due("disturb(2000)", bus.disturb(2000), true);
        Checks.due("run(1)", bus.run(1), 1);
        Checks.due("run(2000)", bus.run(2000), 2001);
        Checks.due("station(0, 0)", bus.station(0, 0), 0);
        Checks.due("station(7, 5)", bus.station(7, 5), 1);
        bus.heard(0);
        bus.heard(4);
        Checks.dueDouble("unpack(0)", bus.unpack(0), 0.0);
        Checks.dueDouble("unpack(65535)", bus.unpack(65535), -327.68);
        bus.bit(0);
        bus.bit(63);
        bus.byteAt(0);
    }

    private static BusTelegrams withAFullQueue() {
        BusTelegrams bus = new BusTelegrams();
        for (int i = 1; i <= 6; i++) {
            bus.send(0, 0, 1, false, 1, i);
        }
        return bus;
    }

    private static void sendRefusesArgumentsBeforeState() {
        BusTelegrams bus = withAFullQueue();
        Checks.illegalState("full", () -> bus.send(0, 0, 1, false, 1, 0));
        dueOutside("full, station", 0, 7, i -> bus.send(i, 0, 0, false, 1, 0));
        dueOutside("full, priority", 0, 3, i -> bus.send(0, i, 0, false, 1, 0));
        dueOutside("full, address", 0, 65535, i -> bus.send(0, 0, i, false, 1, 0));
        dueOutside("full, group", 0, 255, i -> bus.send(0, 0, i, true, 1, 0));
        dueOutside("full, n", 1, 14, i -> bus.send(0, 0, 0, false, i, 0));
        dueOutside("full, b", 0, 255, i -> bus.send(0, 0, 0, false, 1, i));
        Checks.due("another has room", bus.send(1, 0, 1, false, 1, 0), 1);
    }

    private static BusTelegrams withFiftyDisturbances() {
        BusTelegrams bus = new BusTelegrams();
        for (int i = 1; i <= 50; i++) {
            Checks.due("disturb " + i, bus.disturb(100 * (i % 20) + i), true);
        }
        return bus;
    }

    private static void disturbRefusesArgumentsBeforeState() {
        BusTelegrams bus = withFiftyDisturbances();
        Checks.illegalState("50", () -> bus.disturb(2000));
        dueOutside("50", 1, 2000, bus::disturb);
    }

    private static BusTelegrams atTheEnd(int left) {
        BusTelegrams bus = new BusTelegrams();
        for (int i = 1; i < 50; i++) {
            bus.run(2000);
        }
        bus.run(2000 - left);
        return bus;
    }

    private static void runRefusesArgumentsBeforeState() {
        for (int left : new int[] {1, 2, 100, 1999}) {
            BusTelegrams bus = atTheEnd(left);
            Checks.illegalState("one too many of " + left, () -> bus.run(left + 1));
            Checks.illegalState("far too many of " + left, () -> bus.run(2000));
            dueOutside("with " + left + " left", 1, 2000, bus::run);
            Checks.due("just so many", bus.run(left), 100000);
            Checks.illegalState("at the end", () -> bus.run(1));
            Checks.illegalState("at the end", () -> bus.run(2000));
            dueOutside("at the end", 1, 2000, bus::run);
        }
    }

    /** Each refused call would change what is asked for behind it, if it did anything. */
    private static void settingsStayWhenRefused() {
        BusTelegrams bus = new BusTelegrams();
        Checks.illegalArgument("address(0, 65536)", () -> bus.address(0, 65536));
        Checks.illegalArgument("address(0, -1)", () -> bus.address(0, -1));
        Checks.illegalArgument("address(8, 500)", () -> bus.address(8, 500));
        Checks.illegalArgument("address(-1, 500)", () -> bus.address(-1, 500));
        for (int s = 0; s < 8; s++) {
            Checks.due("address of " + s, bus.address(s, 500), s);
        }
        Checks.illegalArgument("listen(0, 256, true)", () -> bus.listen(0, 256, true));
        Checks.illegalArgument("listen(1, -1, true)", () -> bus.listen(1, -1, true));
        Checks.illegalArgument("listen(8, 0, true)", () -> bus.listen(8, 0, true));
        Checks.illegalArgument("listen(-1, 255, true)", () -> bus.listen(-1, 255, true));
        for (int s = 0; s < 8; s++) {
            Checks.due(s + " listens to 0", bus.listen(s, 0, false), false);
            Checks.due(s + " listens to 255", bus.listen(s, 255, false), false);
        }
        Checks.illegalArgument("busy(8, true)", () -> bus.busy(8, true));
        Checks.illegalArgument("busy(-1, true)", () -> bus.busy(-1, true));
        for (int s = 0; s < 8; s++) {
            Checks.due(s + " is busy", bus.busy(s, false), false);
        }
    }

    private static void queueStaysWhenRefused() {
        BusTelegrams bus = new BusTelegrams();
        Checks.illegalArgument("send, station", () -> bus.send(8, 0, 1, false, 1, 0));
        Checks.illegalArgument("send, priority", () -> bus.send(0, 4, 1, false, 1, 0));
        Checks.illegalArgument("send, group", () -> bus.send(0, 0, 256, true, 1, 0));
        Checks.illegalArgument("send, n", () -> bus.send(0, 0, 1, false, 15, 0));
        Checks.illegalArgument("send, b", () -> bus.send(0, 0, 1, false, 1, 256));
        for (int s = 0; s < 8; s++) {
            Checks.due("queue of " + s, bus.station(s, 0), 0);
        }
        bus.run(1);
        Checks.due("nobody begins", bus.bit(0), 1);

        BusTelegrams full = withAFullQueue();
        Checks.illegalState("the seventh", () -> full.send(0, 3, 2, false, 14, 77));
        Checks.illegalArgument("wrong and the seventh", () -> full.send(0, 3, 2, false, 15, 77));
        Checks.due("six", full.station(0, 0), 6);
        for (int i = 1; i <= 6; i++) {
            // The answer's latest 0 is in T + 23, and behind 50 more the next one begins.
            full.run(i == 1 ? 105 : 175);
            Checks.dueBytes("telegram " + i, full, Checks.telegram(176, 0, 1, 0, i));
        }
        full.run(300);
        Checks.dueFacts("all six", full, 0, 0, 0, 0, 6, 0, 0);
        Checks.due("no seventh", full.heard(0), 6);
    }

    private static void lineStaysWhenRefused() {
        BusTelegrams bus = new BusTelegrams();
        Checks.illegalArgument("disturb(0)", () -> bus.disturb(0));
        Checks.illegalArgument("disturb(-1)", () -> bus.disturb(-1));
        Checks.illegalArgument("disturb(2001)", () -> bus.disturb(2001));
        Checks.illegalArgument("disturb(2049)", () -> bus.disturb(2049));
        Checks.dueLine("line", Checks.lineOf(bus, 64), Checks.ones(64));
        for (int i = 0; i < 32; i++) {
            bus.run(64);
        }
        Checks.due("nothing heard", bus.heard(2), 0);
        // They count for none of the fifty, neither do those that were told before.
        BusTelegrams fifty = new BusTelegrams();
        for (int i = 1; i <= 50; i++) {
            Checks.illegalArgument("disturb(2001)", () -> fifty.disturb(2001));
            Checks.due("disturb " + i, fifty.disturb(20 * i), true);
            if (i < 50) {
                Checks.due("disturb " + i + " again", fifty.disturb(20 * i), false);
            }
        }
        Checks.illegalState("51", () -> fifty.disturb(7));
        Checks.illegalState("51, told before", () -> fifty.disturb(20));
        fifty.run(19);
        Checks.illegalState("still 50", () -> fifty.disturb(1500));
        fifty.run(1);
        Checks.due("refused, and not disturbed", fifty.bit(13), 1);
        Checks.due("told, and disturbed", fifty.bit(0), 0);
        Checks.due("one has been", fifty.disturb(1500), true);
        Checks.illegalState("50 again", () -> fifty.disturb(1501));
        fifty.run(2000);
        Checks.due("all were", fifty.heard(2), 51);
    }

    private static void timeStaysWhenRefused() {
        BusTelegrams bus = atTheEnd(100);
        // Its bit 100, the highest one of the check, is a 1.
        bus.send(0, 0, 129, false, 1, 0);
        bus.disturb(100);
        Checks.illegalState("run(101)", () -> bus.run(101));
        Checks.illegalArgument("run(0)", () -> bus.run(0));
        Checks.illegalArgument("run(2001)", () -> bus.run(2001));
        Checks.due("no bit was sent", bus.station(0, 1), 0);
        Checks.due("the latest bit", bus.bit(0), 1);
        Checks.due("run(99)", bus.run(99), 99999);
        Checks.due("it says it", bus.station(0, 1), 1);
        Checks.illegalState("run(2)", () -> bus.run(2));
        Checks.due("still it says it", bus.station(0, 1), 1);
        Checks.due("not yet stopped", bus.station(0, 5), 0);
        Checks.due("run(1)", bus.run(1), 100000);
        Checks.due("stopped by the disturbance", bus.station(0, 5), 1);
        // What would come behind the end may be told nevertheless.
        Checks.due("disturb(1) at the end", bus.disturb(1), true);
        Checks.illegalState("run(1) at the end", () -> bus.run(1));
        Checks.due("disturb(1) again", bus.disturb(1), false);
        Checks.due("the latest bit at the end", bus.bit(0), 0);
    }

    /** The same story twice, with and without refused calls between: all that can be asked is the same. */
    private static void allStaysWhenRefused() {
        int[] parts = {1, 10, 40, 60, 16, 12, 200, 300, 700};
        for (int i = 0; i < parts.length; i++) {
            BusTelegrams plain = story(false, parts, i);
            BusTelegrams refused = story(true, parts, i);
            for (int s = 0; s < 8; s++) {
                for (int what = 0; what < 6; what++) {
                    String call = "part " + i + ": station(" + s + ", " + what + ")";
                    Checks.due(call, refused.station(s, what), plain.station(s, what));
                }
                Checks.due("part " + i + ": address", refused.address(s, 9), plain.address(s, 9));
                Checks.due("part " + i + ": busy", refused.busy(s, true), plain.busy(s, true));
                Checks.due("part " + i + ": listens", refused.listen(s, 7, true), plain.listen(s, 7, true));
            }
            for (int what = 0; what < 5; what++) {
                Checks.due("part " + i + ": heard(" + what + ")", refused.heard(what), plain.heard(what));
            }
            Checks.due("part " + i + ": answer()", refused.answer(), plain.answer());
            Checks.dueLine("part " + i, Checks.lineOf(refused, 100), Checks.lineOf(plain, 100));
        }
    }

    private static BusTelegrams story(boolean withRefused, int[] parts, int last) {
        BusTelegrams bus = withAFullQueue();
        bus.listen(3, 7, true);
        bus.busy(1, true);
        for (int i = 0; i <= last; i++) {
            bus.disturb(20 + i);
            if (bus.station(2, 0) < 6) {
                bus.send(2, i % 4, 7, true, 1 + i % 3, i);
            }
            if (withRefused) {
                refusedCalls(bus);
            }
            bus.run(parts[i]);
        }
        return bus;
    }

    private static void refusedCalls(BusTelegrams bus) {
        Checks.illegalArgument("address", () -> bus.address(1, 65536));
        Checks.illegalArgument("listen", () -> bus.listen(8, 7, false));
        Checks.illegalArgument("busy", () -> bus.busy(8, false));
        Checks.illegalArgument("send", () -> bus.send(2, 0, 1, false, 15, 0));
        if (bus.station(0, 0) == 6) {
            Checks.illegalState("send", () -> bus.send(0, 0, 2, false, 1, 0));
        }
        Checks.illegalArgument("disturb", () -> bus.disturb(0));
        Checks.illegalArgument("disturb", () -> bus.disturb(2001));
        Checks.illegalArgument("run", () -> bus.run(0));
        Checks.illegalArgument("run", () -> bus.run(2001));
        Checks.illegalArgument("bit", () -> bus.bit(64));
        Checks.illegalArgument("station", () -> bus.station(0, 6));
        Checks.illegalArgument("heard", () -> bus.heard(5));
        Checks.illegalArgument("byteAt", () -> bus.byteAt(30));
        Checks.illegalArgument("unpack", () -> bus.unpack(65536));
    }
}
