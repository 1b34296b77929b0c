/** Promise 5: a telegram comes into a station's queue. */
public final class SendTest {
    public static void main(String[] args) {
        refusesWhatIsOutside();
        refusesTheSeventh();
        saysItBitByBit();
        saysDataModulo256();
        saysThemInTheirOrder();
        saysItFourTimes();
        lesserBitGoesOn();
        Checks.finish();
    }

    private static void refusesWhatIsOutside() {
        BusTelegrams bus = new BusTelegrams();
        for (int bad : new int[] {-1, 8, Integer.MIN_VALUE, Integer.MAX_VALUE}) {
            Checks.illegalArgument("station " + bad, () -> bus.send(bad, 0, 0, false, 1, 0));
        }
        for (int bad : new int[] {-1, 4, Integer.MIN_VALUE, Integer.MAX_VALUE}) {
            Checks.illegalArgument("priority " + bad, () -> bus.send(0, bad, 0, false, 1, 0));
        }
        for (int bad : new int[] {-1, 65536, Integer.MIN_VALUE, Integer.MAX_VALUE}) {
            Checks.illegalArgument("address " + bad, () -> bus.send(0, 0, bad, false, 1, 0));
        }
        for (int bad : new int[] {-1, 256, 65535, Integer.MIN_VALUE, Integer.MAX_VALUE}) {
            Checks.illegalArgument("group " + bad, () -> bus.send(0, 0, bad, true, 1, 0));
        }
        for (int bad : new int[] {-1, 0, 15, Integer.MIN_VALUE, Integer.MAX_VALUE}) {
            Checks.illegalArgument("n " + bad, () -> bus.send(0, 0, 0, false, bad, 0));
        }
        for (int bad : new int[] {-1, 256, Integer.MIN_VALUE, Integer.MAX_VALUE}) {
            Checks.illegalArgument("b " + bad, () -> bus.send(0, 0, 0, false, 1, bad));
        }
        Checks.due("queue behind refused calls", bus.station(0, 0), 0);
        Checks.due("edges", bus.send(7, 3, 65535, false, 14, 255), 1);
        Checks.due("edges of a group", bus.send(7, 0, 255, true, 1, 0), 2);
    }

    private static void refusesTheSeventh() {
        BusTelegrams bus = new BusTelegrams();
        for (int i = 1; i <= 6; i++) {
            Checks.due("send " + i, bus.send(2, 0, 3, false, 1, i), i);
        }
        Checks.illegalState("send 7", () -> bus.send(2, 0, 3, false, 1, 7));
        Checks.illegalArgument("wrong send 7", () -> bus.send(2, 0, 3, false, 0, 7));
        Checks.illegalArgument("wrong send 7", () -> bus.send(2, 0, 3, false, 1, 256));
        Checks.due("other queue", bus.send(3, 0, 2, false, 1, 0), 1);
        bus.run(129);
        Checks.illegalState("send while the first one waits", () -> bus.send(2, 0, 3, false, 1, 7));
        bus.run(1);
        Checks.due("send behind the first one", bus.send(2, 0, 3, false, 1, 7), 6);
    }

    private static void saysItBitByBit() {
        BusTelegrams bus = new BusTelegrams();
        bus.address(3, 0xC1DE);
        bus.send(3, 2, 0xBEEF, false, 3, 0x41);
        int[] bytes = Checks.telegram(184, 0xC1DE, 0xBEEF, 2, 0x41, 0x42, 0x43);
        Checks.dueLine("line", Checks.lineOf(bus, 128), Checks.bits(bytes));
        Checks.due("telegrams in T", bus.heard(0), 0);
        bus.run(3);
        Checks.dueBytes("telegram", bus, bytes);

        BusTelegrams group = new BusTelegrams();
        group.send(0, 3, 255, true, 14, 1);
        int[] data = {1, 2, 3, 4, 5, 6, 7, 8, 9, 10, 11, 12, 13, 14};
        int[] all = Checks.telegram(188, 0, 255, 128 + 13, data);
        Checks.dueLine("line of 14", Checks.lineOf(group, 271), Checks.bits(all));
        group.run(3);
        Checks.dueBytes("telegram of 14", group, all);
        Checks.due("right", group.heard(1), 1);
    }

    private static void saysDataModulo256() {
        BusTelegrams bus = new BusTelegrams();
        bus.send(1, 0, 2, false, 4, 254);
        bus.run(13 * 11 + 1);
        Checks.dueBytes("254 ..", bus, Checks.telegram(176, 1, 2, 3, 254, 255, 0, 1));
    }

    private static void saysThemInTheirOrder() {
        BusTelegrams bus = new BusTelegrams();
        // A better priority does not overtake in a queue.
        bus.send(0, 3, 1, false, 1, 10);
        bus.send(0, 0, 1, false, 1, 20);
        bus.send(0, 2, 1, false, 2, 30);
        bus.run(130);
        Checks.due("first", bus.byteAt(6), 10);
        // The answer's last 0 was in bit time 125, so the 50th 1 is in 175.
        Checks.dueLine("idle", Checks.lineOf(bus, 46), "1".repeat(45) + "0");
        bus.run(104);
        Checks.due("second", bus.byteAt(6), 20);
        bus.run(25);
        Checks.due("two are SAID", bus.station(0, 3), 2);
        Checks.dueLine("longer idle", Checks.lineOf(bus, 49), "1".repeat(48) + "0");
        bus.run(13 * 9);
        Checks.dueBytes("third", bus, Checks.telegram(184, 0, 1, 1, 30, 31));
        bus.run(100);
        for (int i = 0; i < 9; i++) {
            Checks.due("round the ring", bus.send(0, 0, 1, false, 1, 2 * i), 1);
            Checks.due("round the ring", bus.send(0, 0, 1, false, 1, 2 * i + 1), 2);
            bus.run(200);
            Checks.due("said round the ring", bus.byteAt(6), 2 * i);
            Checks.due("for the first time", bus.byteAt(0), 176);
            Checks.due("gone from the ring", bus.station(0, 0), 1);
            bus.run(200);
            Checks.due("said round the ring", bus.byteAt(6), 2 * i + 1);
            Checks.due("gone from the ring", bus.station(0, 0), 0);
        }
    }

    private static void saysItFourTimes() {
        BusTelegrams bus = new BusTelegrams();
        bus.send(5, 3, 4000, false, 1, 0);
        String first = Checks.bits(Checks.telegram(188, 5, 4000, 0, 0));
        String again = Checks.bits(Checks.telegram(156, 5, 4000, 0, 0));
        Checks.dueLine("first saying", Checks.lineOf(bus, 102), first);
        for (int i = 2; i <= 4; i++) {
            // Said before, so that 50 are enough; the 1s at the telegram's end count.
            String before = i == 2 ? first : again;
            int pause = 50 - (101 - before.lastIndexOf('0'));
            bus.run(pause);
            Checks.due("pause", bus.bit(0), 1);
            Checks.dueLine("saying " + i, Checks.lineOf(bus, 102), again);
        }
        bus.run(27);
        Checks.due("not yet LOST", bus.station(5, 4), 0);
        bus.run(1);
        Checks.due("LOST", bus.station(5, 4), 1);
        Checks.due("gone", bus.station(5, 0), 0);
        bus.run(200);
        Checks.due("nothing more", bus.heard(0) + bus.heard(2), 4);
        Checks.due("telegrams", bus.heard(0), 4);

        bus.send(5, 3, 4000, false, 1, 0);
        Checks.dueLine("a new one is said for the first time", Checks.lineOf(bus, 60), first.substring(0, 60));
    }

    private static void lesserBitGoesOn() {
        BusTelegrams bus = new BusTelegrams();
        bus.send(1, 1, 0, false, 1, 0);
        bus.send(2, 1, 0, false, 1, 0);
        bus.send(3, 2, 0, false, 1, 0);
        // 184 and 180 part at the third bit of the byte, the lowest first; 1 and 2 at the first.
        bus.run(3);
        Checks.due("3 goes on", bus.station(3, 1), 1);
        bus.run(1);
        Checks.due("1 stops", bus.station(1, 5), 1);
        Checks.due("2 stops", bus.station(2, 5), 1);
        Checks.due("3 goes on", bus.station(3, 5), 0);
        bus.run(126);
        Checks.due("3 has SAID", bus.station(3, 3), 1);
        Checks.dueBytes("3's", bus, Checks.telegram(184, 3, 0, 0, 0));
        bus.run(176 + 129 - 130);
        // 1 sends a 1 where 2 sends a 0.
        Checks.due("1 stops again", bus.station(1, 5), 2);
        Checks.due("2 goes on", bus.station(2, 5), 1);
        Checks.due("2 has SAID", bus.station(2, 3), 1);
        bus.run(200);
        Checks.due("1 has SAID", bus.station(1, 3), 1);

        BusTelegrams same = new BusTelegrams();
        same.address(1, 9);
        same.address(2, 9);
        same.send(1, 0, 3, false, 1, 0);
        same.send(2, 0, 3, false, 1, 0);
        same.run(102);
        Checks.due("1 waits", same.station(1, 2), 1);
        Checks.due("2 waits", same.station(2, 2), 1);
        same.run(28);
        Checks.due("1 has SAID the same", same.station(1, 3), 1);
        Checks.due("2 has SAID the same", same.station(2, 3), 1);
        Checks.due("once heard", same.heard(0), 1);
    }
}
