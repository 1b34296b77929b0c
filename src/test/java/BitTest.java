/** Promise 8: the line's bit in one of the latest 64 bit times. */
public final class BitTest {
    public static void main(String[] args) {
        BusTelegrams bus = new BusTelegrams();
        Checks.illegalArgument("bit(0) before the first", () -> bus.bit(0));
        bus.disturb(1);
        bus.run(1);
        Checks.due("bit(0) of one", bus.bit(0), 0);
        Checks.illegalArgument("bit(1) of one", () -> bus.bit(1));
        bus.run(62);
        Checks.due("bit(62) of 63", bus.bit(62), 0);
        Checks.illegalArgument("bit(63) of 63", () -> bus.bit(63));
        bus.run(1);
        Checks.due("bit(63) of 64", bus.bit(63), 0);
        Checks.due("bit(62) of 64", bus.bit(62), 1);
        bus.run(1);
        Checks.due("bit(63) of 65", bus.bit(63), 1);
        for (int bad : new int[] {-1, 64, Integer.MIN_VALUE, Integer.MAX_VALUE}) {
            Checks.illegalArgument("bit(" + bad + ")", () -> bus.bit(bad));
        }
        String line = said();
        BusTelegrams other = new BusTelegrams();
        other.send(0, 1, 2, false, 3, 77);
        other.run(100);
        for (int i = 0; i < 64; i++) {
            Checks.due("bit(" + i + ") of a telegram", other.bit(i), line.charAt(99 - i) - '0');
        }
        Checks.finish();
    }

    private static String said() {
        return Checks.bits(Checks.telegram(180, 0, 2, 2, 77, 78, 79));
    }
}
