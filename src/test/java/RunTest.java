/** Promise 7: so many bit times, how many there were in all. */
public final class RunTest {
    public static void main(String[] args) {
        BusTelegrams bus = new BusTelegrams();
        for (int bad : new int[] {0, -1, 2001, Integer.MIN_VALUE, Integer.MAX_VALUE}) {
            Checks.illegalArgument("run(" + bad + ")", () -> bus.run(bad));
        }
        Checks.due("run(1)", bus.run(1), 1);
        Checks.due("run(2000)", bus.run(2000), 2001);
        for (int i = 1; i < 49; i++) {
            Checks.due("run(2000) more", bus.run(2000), 2001 + 2000 * i);
        }
        Checks.illegalState("run(2000) at 98001", () -> bus.run(2000));
        Checks.due("run(1998)", bus.run(1998), 99999);
        Checks.illegalState("run(2)", () -> bus.run(2));
        bus.disturb(1);
        bus.disturb(2);
        Checks.due("run(1) to the end", bus.run(1), 100000);
        Checks.due("bit at the end", bus.bit(0), 0);
        Checks.illegalState("run(1) beyond the end", () -> bus.run(1));
        Checks.illegalArgument("run(0) beyond the end", () -> bus.run(0));
        Checks.illegalArgument("run(2001) beyond the end", () -> bus.run(2001));
        Checks.due("bit behind refused calls", bus.bit(1), 1);
        sameInParts();
        Checks.finish();
    }

    private static void sameInParts() {
        BusTelegrams whole = new BusTelegrams();
        BusTelegrams parts = new BusTelegrams();
        for (BusTelegrams bus : new BusTelegrams[] {whole, parts}) {
            bus.send(0, 3, 1, false, 5, 9);
            bus.send(1, 2, 44, false, 2, 200);
            bus.disturb(700);
        }
        whole.run(1500);
        Checks.lineOf(parts, 100);
        Checks.runFor(parts, 1400);
        for (int i = 0; i < 64; i++) {
            Checks.due("bit in parts", parts.bit(i), whole.bit(i));
        }
        for (int i = 0; i < 5; i++) {
            Checks.due("heard in parts", parts.heard(i), whole.heard(i));
        }
    }
}
