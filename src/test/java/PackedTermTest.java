/** Terms, PACKED and UNPACKED: a test for each sentence, at the edges of m and of e. */
public final class PackedTermTest {
    private static BusTelegrams bus = new BusTelegrams();
    private static int calls = 0;

    public static void main(String[] args) {
        takesTheGreatestWholeNumberNotAbove();
        roundsInDoubles();
        isZeroForNoNumber();
        takesTheLeastExponentUpwards();
        takesTheLeastExponentDownwards();
        endsAtTheGreatest();
        endsAtTheLeast();
        packsTheSignApart();
        unpacksAllEdges();
        comesBackIfItsExponentIsTheLeast();
        Checks.finish();
    }

    /** An object has 512 calls, and these tests make many more. */
    private static BusTelegrams next() {
        calls++;
        if (calls % 500 == 0) {
            bus = new BusTelegrams();
        }
        return bus;
    }

    private static void due(double v, int m, int e) {
        int want = (m < 0 ? 32768 : 0) + 2048 * e + (m < 0 ? m + 2048 : m);
        Checks.due("pack(" + v + ")", next().pack(v), want);
    }

    private static void takesTheGreatestWholeNumberNotAbove() {
        double[] halves = {0.125, 0.375, 0.625, 0.875, 1.125};
        int[] up = {13, 38, 63, 88, 113};
        int[] down = {-12, -37, -62, -87, -112};
        for (int i = 0; i < 5; i++) {
            due(halves[i], up[i], 0);
            due(-halves[i], down[i], 0);
        }
        due(0.0, 0, 0);
        due(-0.0, 0, 0);
        due(0.0049, 0, 0);
        due(0.0051, 1, 0);
        due(-0.0049, 0, 0);
        due(-0.005, 0, 0);
        due(-0.0051, -1, 0);
        due(-0.0149, -1, 0);
        due(-0.0151, -2, 0);
        due(0.0149, 1, 0);
        due(0.0151, 2, 0);
        due(Double.MIN_VALUE, 0, 0);
        due(-Double.MIN_VALUE, 0, 0);
    }

    /** Where exact numbers would give another m. */
    private static void roundsInDoubles() {
        double less = Math.nextDown(0.005);
        while (100.0 * less >= 0.5) {
            less = Math.nextDown(less);
        }
        Checks.due("just below a half", 100.0 * less == Math.nextDown(0.5), true);
        // The sum of this and 0.5 is rounded to 1.
        due(less, 1, 0);
        due(0.00499, 0, 0);
        due(1.005, 100, 0);
        due(0.285, 28, 0);
        due(0.145, 14, 0);
        due(-0.145, -14, 0);
        due(20.475, 1024, 1);
        due(Math.nextDown(20.475), 2047, 0);
        due(0.005, 1, 0);
    }

    private static void isZeroForNoNumber() {
        due(Double.NaN, 0, 0);
        due(-Double.NaN, 0, 0);
        due(0.0 / Double.parseDouble("0"), 0, 0);
        due(Double.longBitsToDouble(0xFFF8000000000001L), 0, 0);
    }

    /** 2047.5 times 2^e is the first that is too great for e; with e + 1 it is 1023.75. */
    private static void takesTheLeastExponentUpwards() {
        for (int e = 0; e <= 14; e++) {
            double two = Math.pow(2, e);
            due(20.47 * two, 2047, e);
            due(20.4749 * two, 2047, e);
            due(20.4751 * two, 1024, e + 1);
            due(20.48 * two, 1024, e + 1);
            if (e > 0) {
                due(10.24 * two, 1024, e);
                due(10.25 * two, 1025, e);
            }
        }
        due(20.47 * 32768, 2047, 15);
    }

    /** -2048.5 times 2^e is the least for e: the greatest whole number not above that and 0.5 is -2048. */
    private static void takesTheLeastExponentDownwards() {
        for (int e = 0; e <= 14; e++) {
            double two = Math.pow(2, e);
            due(-20.48 * two, -2048, e);
            due(-20.4849 * two, -2048, e);
            due(-20.4851 * two, -1024, e + 1);
            due(-20.49 * two, -1024, e + 1);
            due(-20.4901 * two, -1025, e + 1);
            due(-20.5099 * two, -1025, e + 1);
            due(-20.5101 * two, -1026, e + 1);
            due(-20.47 * two, -2047, e);
        }
        // Of these doubles the product with 100 is the edge itself.
        due(-20.485, -2048, 0);
        due(-20.485 * 4, -2048, 2);
        due(Math.nextDown(-20.485), -1024, 1);
    }

    private static void endsAtTheGreatest() {
        Checks.due("the greatest", next().pack(670760.96), 32767);
        due(670760.96, 2047, 15);
        due(670924.7, 2047, 15);
        due(670924.9, 2047, 15);
        due(671088.64, 2047, 15);
        due(1341521.92, 2047, 15);
        due(1e9, 2047, 15);
        due(1e300, 2047, 15);
        due(1.7e306, 2047, 15);
        due(1.8e306, 2047, 15);
        due(Double.MAX_VALUE, 2047, 15);
        due(Double.POSITIVE_INFINITY, 2047, 15);
        due(670433.27, 2046, 15);
    }

    private static void endsAtTheLeast() {
        Checks.due("the least", next().pack(-671088.64), 63488);
        due(-671088.64, -2048, 15);
        due(-671252.4, -2048, 15);
        due(-671252.6, -2048, 15);
        due(-671416.33, -2048, 15);
        due(-1e9, -2048, 15);
        due(-1e300, -2048, 15);
        due(-1.8e306, -2048, 15);
        due(-Double.MAX_VALUE, -2048, 15);
        due(Double.NEGATIVE_INFINITY, -2048, 15);
        due(-670760.96, -2047, 15);
    }

    private static void packsTheSignApart() {
        Checks.due("m 1", next().pack(0.01), 1);
        Checks.due("m 0", next().pack(0.0), 0);
        Checks.due("m -1", next().pack(-0.01), 32768 + 2047);
        Checks.due("m 2047", next().pack(20.47), 2047);
        Checks.due("m -2047", next().pack(-20.47), 32768 + 1);
        Checks.due("m -2048", next().pack(-20.48), 32768);
        Checks.due("m 1024, e 1", next().pack(20.48), 2048 + 1024);
        Checks.due("m -1025, e 1", next().pack(-20.5), 32768 + 2048 + 1023);
        Checks.due("m -2048, e 1", next().pack(-40.96), 32768 + 2048);
        Checks.due("m -1025, e 15", next().pack(-335872.0), 32768 + 2048 * 15 + 1023);
        Checks.due("m 1024, e 15", next().pack(335544.32), 2048 * 15 + 1024);
    }

    private static void unpacksAllEdges() {
        for (int bad : new int[] {-1, -32768, 65536, 65537, Integer.MIN_VALUE, Integer.MAX_VALUE}) {
            Checks.illegalArgument("unpack(" + bad + ")", () -> next().unpack(bad));
        }
        int[] packed = {0, 1, 2047, 2048, 2049, 4095, 4096, 30720, 32767, 32768, 32769, 34815, 34816, 63488, 65534, 65535};
        double[] want = {
            0.0, 0.01, 20.47, 0.0, 0.02, 40.94, 0.0, 0.0, 670760.96, -20.48, -20.47, -0.01, -40.96, -671088.64,
            -655.36, -327.68
        };
        for (int i = 0; i < packed.length; i++) {
            Checks.dueDouble("unpack(" + packed[i] + ")", next().unpack(packed[i]), want[i]);
        }
    }

    private static void comesBackIfItsExponentIsTheLeast() {
        for (int packed = 0; packed < 65536; packed++) {
            int e = packed / 2048 % 16;
            int m = packed % 2048 - (packed >= 32768 ? 2048 : 0);
            if (e == 0 || m > 1023 || m < -1024) {
                Checks.due("packed again " + packed, next().pack(next().unpack(packed)), packed);
            }
        }
    }
}
