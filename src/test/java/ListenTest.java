/** Promise 3: a station listens to a group, or not. */
public final class ListenTest {
    public static void main(String[] args) {
        tellsWhetherItDid();
        refusesWhatIsOutside();
        listenersAnswer();
        groupsAreNoAddresses();
        Checks.finish();
    }

    private static void tellsWhetherItDid() {
        BusTelegrams bus = new BusTelegrams();
        Checks.due("listen(0, 255, true)", bus.listen(0, 255, true), false);
        Checks.due("listen(0, 255, true) again", bus.listen(0, 255, true), true);
        Checks.due("listen(0, 254, false)", bus.listen(0, 254, false), false);
        Checks.due("listen(1, 255, false)", bus.listen(1, 255, false), false);
        Checks.due("listen(0, 255, false)", bus.listen(0, 255, false), true);
        Checks.due("listen(0, 255, true) anew", bus.listen(0, 255, true), false);
        Checks.due("listen(0, 0, true)", bus.listen(0, 0, true), false);
        Checks.due("listen(0, 0, false)", bus.listen(0, 0, false), true);
    }

    private static void refusesWhatIsOutside() {
        BusTelegrams bus = new BusTelegrams();
        for (int bad : new int[] {-1, 8, Integer.MIN_VALUE, Integer.MAX_VALUE}) {
            Checks.illegalArgument("listen(" + bad + ", 0, true)", () -> bus.listen(bad, 0, true));
        }
        for (int bad : new int[] {-1, 256, Integer.MIN_VALUE, Integer.MAX_VALUE}) {
            Checks.illegalArgument("listen(0, " + bad + ", true)", () -> bus.listen(0, bad, true));
        }
    }

    private static void listenersAnswer() {
        BusTelegrams bus = new BusTelegrams();
        bus.listen(4, 200, true);
        bus.listen(6, 200, true);
        bus.send(0, 0, 200, true, 1, 0);
        bus.run(130);
        Checks.due("listeners' answer", bus.answer(), 204);
        Checks.due("SAID to listeners", bus.station(0, 3), 1);
        for (int edge : new int[] {0, 255}) {
            BusTelegrams other = new BusTelegrams();
            other.listen(4, edge, true);
            other.send(0, 0, edge, true, 1, 0);
            other.run(130);
            Checks.due("listener's answer to group " + edge, other.answer(), 204);
        }
        bus.listen(4, 200, false);
        bus.listen(6, 200, false);
        bus.send(0, 0, 200, true, 1, 0);
        bus.run(200);
        Checks.due("no listener's answer", bus.answer(), BusTelegrams.NONE);
    }

    private static void groupsAreNoAddresses() {
        BusTelegrams bus = new BusTelegrams();
        bus.send(0, 0, 3, true, 1, 0);
        bus.run(130);
        Checks.due("the group 3 is not station 3", bus.answer(), BusTelegrams.NONE);

        BusTelegrams own = new BusTelegrams();
        own.listen(3, 100, true);
        own.send(0, 0, 100, false, 1, 0);
        own.run(130);
        Checks.due("the address 100 is not group 100", own.answer(), BusTelegrams.NONE);
    }
}
