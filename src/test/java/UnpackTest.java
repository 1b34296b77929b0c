/** Promise 14: a number unpacked. */
public final class UnpackTest {
    public static void main(String[] args) {
        BusTelegrams bus = new BusTelegrams();
        for (int bad : new int[] {-1, 65536, Integer.MIN_VALUE, Integer.MAX_VALUE}) {
            Checks.illegalArgument("unpack(" + bad + ")", () -> bus.unpack(bad));
        }
        Checks.dueDouble("unpack(0)", bus.unpack(0), 0.0);
        Checks.dueDouble("unpack(1)", bus.unpack(1), 0.01);
        Checks.dueDouble("unpack(2047)", bus.unpack(2047), 20.47);
        Checks.dueDouble("unpack(2048)", bus.unpack(2048), 0.0);
        Checks.dueDouble("unpack(2049)", bus.unpack(2049), 0.02);
        Checks.dueDouble("unpack(32767)", bus.unpack(32767), 670760.96);
        Checks.dueDouble("unpack(32768)", bus.unpack(32768), -20.48);
        Checks.dueDouble("unpack(34815)", bus.unpack(34815), -0.01);
        Checks.dueDouble("unpack(63488)", bus.unpack(63488), -671088.64);
        Checks.dueDouble("unpack(65535)", bus.unpack(65535), -327.68);
        BusTelegrams some = bus;
        for (int packed = 0; packed < 65536; packed++) {
            if (packed % 500 == 0) {
                some = new BusTelegrams();
            }
            int m = packed % 2048 - (packed >= 32768 ? 2048 : 0);
            int e = packed % 32768 / 2048;
            Checks.dueDouble("unpack(" + packed + ")", some.unpack(packed), m * Math.pow(2, e) / 100.0);
        }
        Checks.finish();
    }
}
