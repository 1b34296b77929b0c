/** Promise 13: a number packed. */
public final class PackTest {
    private static final BusTelegrams BUS = new BusTelegrams();

    public static void main(String[] args) {
        due(0.0, 0);
        due(-0.0, 0);
        due(Double.NaN, 0);
        due(Double.MIN_VALUE, 0);
        due(-Double.MIN_VALUE, 0);
        due(0.005, 1);
        due(0.0049, 0);
        due(-0.005, 0);
        due(-0.0051, packed(-1, 0));
        due(0.01, 1);
        due(-0.01, packed(-1, 0));
        due(20.47, 2047);
        due(20.474, 2047);
        due(20.475, packed(1024, 1));
        due(20.48, packed(1024, 1));
        due(-20.48, packed(-2048, 0));
        due(-20.485, packed(-2048, 0));
        due(-20.49, packed(-1024, 1));
        due(-20.51, packed(-1025, 1));
        due(21.5, packed(1075, 1));
        due(40.94, packed(2047, 1));
        due(40.96, packed(1024, 2));
        due(670760.96, 32767);
        due(670924.0, 32767);
        due(671000.0, 32767);
        due(1e300, 32767);
        due(Double.MAX_VALUE, 32767);
        due(Double.POSITIVE_INFINITY, 32767);
        due(-671088.64, 63488);
        due(-671252.4, 63488);
        due(-671300.0, 63488);
        due(-Double.MAX_VALUE, 63488);
        due(Double.NEGATIVE_INFINITY, 63488);
        allThatCanBePacked();
        Checks.finish();
    }

    private static int packed(int m, int e) {
        return (m < 0 ? 32768 : 0) + 2048 * e + Math.floorMod(m, 2048);
    }

    private static void due(double v, int want) {
        Checks.due("pack(" + v + ")", BUS.pack(v), want);
        Checks.due("plain pack(" + v + ")", plainPack(v), want);
    }

    /** By the document's words, with the library's floor. */
    private static int plainPack(double v) {
        if (Double.isNaN(v)) {
            return 0;
        }
        for (int e = 0; e <= 15; e++) {
            double m = Math.floor(100.0 * v / Math.pow(2, e) + 0.5);
            if (m >= -2048 && m <= 2047) {
                return packed((int) m, e);
            }
        }
        return packed(v < 0 ? -2048 : 2047, 15);
    }

    private static void allThatCanBePacked() {
        BusTelegrams bus = BUS;
        for (int e = 0; e <= 15; e++) {
            for (int m = -2048; m <= 2047; m++) {
                // Five calls each, and an object has 512.
                if (m % 64 == 0) {
                    bus = new BusTelegrams();
                }
                for (int part = -2; part <= 2; part++) {
                    double v = (m + 0.25 * part) * (1 << e) / 100.0;
                    Checks.due("pack(" + v + ")", bus.pack(v), plainPack(v));
                }
            }
        }
    }
}
