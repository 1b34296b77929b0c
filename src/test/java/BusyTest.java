/** Promise 4: a station is busy, or not. */
public final class BusyTest {
    public static void main(String[] args) {
        tellsWhetherItWas();
        answersByIt();
        Checks.finish();
    }

    private static void tellsWhetherItWas() {
        BusTelegrams bus = new BusTelegrams();
        Checks.due("busy(7, true)", bus.busy(7, true), false);
        Checks.due("busy(7, true) again", bus.busy(7, true), true);
        Checks.due("busy(6, false)", bus.busy(6, false), false);
        Checks.due("busy(7, false)", bus.busy(7, false), true);
        Checks.due("busy(7, false) again", bus.busy(7, false), false);
        for (int bad : new int[] {-1, 8, Integer.MIN_VALUE, Integer.MAX_VALUE}) {
            Checks.illegalArgument("busy(" + bad + ", true)", () -> bus.busy(bad, true));
        }
    }

    private static void answersByIt() {
        BusTelegrams bus = new BusTelegrams();
        bus.send(0, 0, 1, false, 1, 0);
        bus.run(115);
        bus.busy(1, true);
        bus.run(1);
        bus.busy(1, false);
        bus.run(14);
        Checks.due("answer of one who was busy in T + 14", bus.answer(), 192);
        Checks.due("not SAID", bus.station(0, 3), 0);
        Checks.due("still in the queue", bus.station(0, 0), 1);
        bus.run(400);
        Checks.due("answer later", bus.answer(), 204);
        Checks.due("SAID later", bus.station(0, 3), 1);

        BusTelegrams all = new BusTelegrams();
        for (int s = 1; s < 8; s++) {
            all.listen(s, 9, true);
        }
        all.busy(7, true);
        all.send(0, 0, 9, true, 1, 0);
        all.run(130);
        Checks.due("one busy of many", all.answer(), 192);
    }
}
