/** Terms, STATIONS: a test for each sentence, at the edges of its numbers. */
public final class StationTermTest {
    public static void main(String[] args) {
        areEight();
        haveTheirNumberForAnAddress();
        haveAnyOfAllAddresses();
        listenToAnyOfAllGroups();
        listenEachForItself();
        queueHoldsSix();
        queueHoldsTheOneThatIsSaid();
        queueHoldsTheOneThatWasStopped();
        queueHasRoomBehindALostOne();
        queueSaysTheFirstOneNext();
        queueGoesRound();
        Checks.finish();
    }

    private static void areEight() {
        for (int s = 0; s < 8; s++) {
            BusTelegrams bus = new BusTelegrams();
            int other = 7 - s;
            bus.send(s, 0, other, false, 1, 0);
            bus.run(130);
            Checks.due("SAID by " + s, bus.station(s, 3), 1);
            Checks.due("not by " + other, bus.station(other, 3), 0);
        }
    }

    private static void haveTheirNumberForAnAddress() {
        for (int aim = 0; aim < 8; aim++) {
            BusTelegrams bus = new BusTelegrams();
            bus.send(7 - aim, 0, aim, false, 1, 0);
            bus.run(130);
            Checks.due("answer of " + aim, bus.answer(), 204);
            Checks.due("sender " + (7 - aim), bus.byteAt(2), 7 - aim);
        }
        for (int aim : new int[] {8, 255, 256, 32768, 65535}) {
            BusTelegrams bus = new BusTelegrams();
            bus.send(0, 0, aim, false, 1, 0);
            bus.run(130);
            Checks.due("nobody is " + aim, bus.answer(), BusTelegrams.NONE);
        }
    }

    private static void haveAnyOfAllAddresses() {
        for (int address : new int[] {0, 255, 256, 32767, 32768, 65280, 65535}) {
            BusTelegrams bus = new BusTelegrams();
            bus.address(0, 99);
            bus.address(5, address);
            bus.send(3, 0, address, false, 1, 0);
            bus.run(130);
            Checks.due("answer of " + address, bus.answer(), 204);
        }
    }

    private static void listenToAnyOfAllGroups() {
        for (int group : new int[] {0, 1, 127, 128, 254, 255}) {
            BusTelegrams one = new BusTelegrams();
            one.listen(5, group, true);
            one.send(3, 0, group, true, 1, 0);
            one.run(130);
            Checks.due("listener to " + group, one.answer(), 204);

            BusTelegrams others = new BusTelegrams();
            others.listen(5, (group + 255) % 256, true);
            others.listen(5, (group + 1) % 256, true);
            others.listen(5, group ^ 128, true);
            others.send(3, 0, group, true, 1, 0);
            others.run(130);
            Checks.due("no listener to " + group, others.answer(), BusTelegrams.NONE);
        }
    }

    private static void listenEachForItself() {
        for (int s = 0; s < 8; s++) {
            BusTelegrams bus = new BusTelegrams();
            bus.listen(s, 200, true);
            for (int other = 0; other < 8; other++) {
                Checks.due(other + " beside " + s, bus.listen(other, 200, other == s), other == s);
            }
            bus.send(s, 0, 200, true, 1, 0);
            bus.run(130);
            // Who waits does not answer.
            Checks.due("no other than " + s, bus.answer(), BusTelegrams.NONE);
        }
    }

    private static void queueHoldsSix() {
        BusTelegrams bus = new BusTelegrams();
        for (int s = 0; s < 8; s++) {
            int station = s;
            for (int i = 1; i <= 6; i++) {
                Checks.due("send " + i + " of " + s, bus.send(s, 0, 99, false, 1, 0), i);
                Checks.due("queue of " + s, bus.station(s, 0), i);
            }
            Checks.illegalState("send 7 of " + s, () -> bus.send(station, 0, 99, false, 1, 0));
            Checks.due("full queue of " + s, bus.station(s, 0), 6);
        }
    }

    private static void queueHoldsTheOneThatIsSaid() {
        BusTelegrams bus = new BusTelegrams();
        for (int i = 1; i <= 6; i++) {
            bus.send(2, 0, 3, false, 1, i);
        }
        for (int part : new int[] {1, 100, 1, 1, 26}) {
            bus.run(part);
            Checks.due("6 while it is said or waits", bus.station(2, 0), 6);
            Checks.illegalState("send while it is said or waits", () -> bus.send(2, 0, 3, false, 1, 7));
        }
        bus.run(1);
        Checks.due("T + 28", bus.station(2, 0), 5);
        Checks.due("send behind T + 28", bus.send(2, 0, 3, false, 1, 7), 6);
        Checks.illegalState("full again", () -> bus.send(2, 0, 3, false, 1, 8));
    }

    private static void queueHoldsTheOneThatWasStopped() {
        BusTelegrams bus = new BusTelegrams();
        for (int i = 1; i <= 6; i++) {
            bus.send(2, 0, 3, false, 1, i);
        }
        bus.disturb(11);
        bus.run(11);
        Checks.due("stopped", bus.station(2, 5), 1);
        Checks.due("6 behind a stop", bus.station(2, 0), 6);
        Checks.illegalState("send behind a stop", () -> bus.send(2, 0, 3, false, 1, 7));
    }

    /** The first one is said from 1, 151, 302 and 453 on, and ends in 102, 252, 403 and 554. */
    private static void queueHasRoomBehindALostOne() {
        BusTelegrams bus = new BusTelegrams();
        for (int i = 1; i <= 6; i++) {
            bus.send(0, 0, 99, false, 1, 0);
        }
        bus.run(554 + 27);
        Checks.due("sayings", bus.heard(0), 4);
        Checks.illegalState("T + 27 of the last saying", () -> bus.send(0, 0, 99, false, 1, 0));
        Checks.due("not yet LOST", bus.station(0, 4), 0);
        bus.run(1);
        Checks.due("LOST", bus.station(0, 4), 1);
        Checks.due("gone", bus.station(0, 0), 5);
        Checks.due("room", bus.send(0, 0, 99, false, 1, 0), 6);
    }

    private static void queueSaysTheFirstOneNext() {
        BusTelegrams bus = new BusTelegrams();
        // Neither its priority nor that it is shorter lets one overtake.
        int[] priorities = {3, 2, 1, 0, 0, 0};
        for (int i = 0; i < 6; i++) {
            bus.send(0, priorities[i], 1, false, 14 - i, 10 * i);
        }
        for (int i = 0; i < 6; i++) {
            int before = bus.heard(0);
            for (int part = 0; part < 40 && bus.heard(0) == before; part++) {
                bus.run(10);
            }
            Checks.due("telegram " + i + ": first data", bus.byteAt(6), 10 * i);
            Checks.due("telegram " + i + ": control", bus.byteAt(0), 176 + 4 * priorities[i]);
            Checks.due("telegram " + i + ": how many", bus.byteAt(5), 13 - i);
        }
    }

    /** More telegrams than a queue has places, so that each place is used again. */
    private static void queueGoesRound() {
        BusTelegrams bus = new BusTelegrams();
        for (int i = 0; i < 6; i++) {
            bus.send(0, 0, 1, false, 1, i);
        }
        for (int i = 0; i < 14; i++) {
            for (int part = 0; part < 10 && bus.station(0, 3) == i; part++) {
                bus.run(30);
            }
            Checks.due("SAID", bus.station(0, 3), i + 1);
            Checks.due("data of " + i, bus.byteAt(6), i);
            Checks.due("control of " + i, bus.byteAt(0), 176);
            Checks.due("room behind " + i, bus.send(0, 0, 1, false, 1, i + 6), 6);
        }
    }
}
