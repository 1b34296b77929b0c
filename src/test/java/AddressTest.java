/** Promise 2: a station's address, what it was. */
public final class AddressTest {
    public static void main(String[] args) {
        tellsWhatItWas();
        refusesWhatIsOutside();
        isThatOfTheTimeOfSending();
        isThatOfTheTimeOfAnswering();
        Checks.finish();
    }

    private static void tellsWhatItWas() {
        BusTelegrams bus = new BusTelegrams();
        Checks.due("address(7, 65535)", bus.address(7, 65535), 7);
        Checks.due("address(7, 0)", bus.address(7, 0), 65535);
        Checks.due("address(7, 300)", bus.address(7, 300), 0);
        Checks.due("address(0, 300)", bus.address(0, 300), 0);
        Checks.due("address(7, 1)", bus.address(7, 1), 300);
        Checks.due("address(0, 2)", bus.address(0, 2), 300);
    }

    private static void refusesWhatIsOutside() {
        BusTelegrams bus = new BusTelegrams();
        for (int bad : new int[] {-1, 8, Integer.MIN_VALUE, Integer.MAX_VALUE}) {
            Checks.illegalArgument("address(" + bad + ", 0)", () -> bus.address(bad, 0));
        }
        for (int bad : new int[] {-1, 65536, Integer.MIN_VALUE, Integer.MAX_VALUE}) {
            Checks.illegalArgument("address(0, " + bad + ")", () -> bus.address(0, bad));
        }
        Checks.due("address(0, 0) behind refused calls", bus.address(0, 0), 0);
    }

    private static void isThatOfTheTimeOfSending() {
        BusTelegrams bus = new BusTelegrams();
        bus.address(2, 0x1234);
        bus.send(2, 1, 0xABCD, false, 1, 7);
        bus.address(2, 0xFFFF);
        bus.run(105);
        Checks.dueBytes("old address", bus, Checks.telegram(180, 0x1234, 0xABCD, 0, 7));
    }

    private static void isThatOfTheTimeOfAnswering() {
        BusTelegrams bus = new BusTelegrams();
        bus.send(0, 0, 500, false, 1, 0);
        bus.run(115);
        bus.address(5, 500);
        bus.run(1);
        bus.address(5, 501);
        bus.run(14);
        Checks.due("answer of an address of 500", bus.answer(), 204);

        BusTelegrams late = new BusTelegrams();
        late.send(0, 0, 500, false, 1, 0);
        late.run(116);
        late.address(5, 500);
        late.run(14);
        Checks.due("no answer of a late address", late.answer(), BusTelegrams.NONE);

        BusTelegrams left = new BusTelegrams();
        left.send(0, 0, 1, false, 1, 0);
        left.run(115);
        left.address(1, 77);
        left.run(15);
        Checks.due("no answer of an address left", left.answer(), BusTelegrams.NONE);
    }
}
