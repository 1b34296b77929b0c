import java.util.ArrayList;
import java.util.List;

/** What all tests share: counting wrong answers, and telegrams worked out by hand's rules. */
final class Checks {
    interface Call {
        void make();
    }

    private static int wrong = 0;

    private Checks() {
    }

    static void due(String call, long got, long want) {
        if (got != want) {
            wrong++;
            System.out.println(call + " answered " + got + ", due is " + want);
        }
    }

    static void due(String call, boolean got, boolean want) {
        due(call, got ? 1 : 0, want ? 1 : 0);
    }

    /** Two doubles are the same if their bits are: a negative zero is not a zero. */
    static void dueDouble(String call, double got, double want) {
        if (Double.doubleToLongBits(got) != Double.doubleToLongBits(want)) {
            wrong++;
            System.out.println(call + " answered " + got + ", due is " + want);
        }
    }

    static void illegalArgument(String call, Call made) {
        thrown(call, made, IllegalArgumentException.class);
    }

    static void illegalState(String call, Call made) {
        thrown(call, made, IllegalStateException.class);
    }

    private static void thrown(String call, Call made, Class<?> want) {
        Class<?> got = null;
        try {
            made.make();
        } catch (RuntimeException e) {
            got = e.getClass();
        }
        if (got != want) {
            wrong++;
            System.out.println(call + " threw " + got + ", due is " + want);
        }
    }

    static void finish() {
        if (wrong != 0) {
            System.out.println(wrong + " answers are not as due");
            System.exit(1);
        }
    }

    /** Runs more than one call of run may. */
    static void runFor(BusTelegrams bus, int bits) {
        int left = bits;
        while (left > 0) {
            int part = Math.min(left, 2000);
            bus.run(part);
            left -= part;
        }
    }

    /** A telegram's bytes, with the check behind them. */
    static int[] telegram(int control, int sender, int aim, int sixth, int... data) {
        int[] bytes = new int[7 + data.length];
        bytes[0] = control;
        bytes[1] = sender / 256;
        bytes[2] = sender % 256;
        bytes[3] = aim / 256;
        bytes[4] = aim % 256;
        bytes[5] = sixth;
        System.arraycopy(data, 0, bytes, 6, data.length);
        int check = 255;
        for (int i = 0; i < bytes.length - 1; i++) {
            check ^= bytes[i];
        }
        bytes[bytes.length - 1] = check;
        return bytes;
    }

    /** The bits of characters with two 1 between them. */
    static String bits(int... bytes) {
        List<String> characters = new ArrayList<>();
        for (int one : bytes) {
            StringBuilder character = new StringBuilder("0");
            boolean odd = false;
            for (int rest = one, i = 0; i < 8; i++, rest /= 2) {
                character.append(rest % 2);
                odd ^= rest % 2 == 1;
            }
            characters.add(character.append(odd ? "11" : "01").toString());
        }
        return String.join("11", characters);
    }

    /** Runs bit by bit and tells what the line was. */
    static String lineOf(BusTelegrams bus, int bits) {
        StringBuilder line = new StringBuilder();
        for (int i = 0; i < bits; i++) {
            bus.run(1);
            line.append(bus.bit(0));
        }
        return line.toString();
    }

    static void dueLine(String call, String got, String want) {
        if (!got.equals(want)) {
            wrong++;
            System.out.println(call + " was\n  " + got + ", due is\n  " + want);
        }
    }

    static void dueBytes(String call, BusTelegrams bus, int... want) {
        for (int i = 0; i < want.length; i++) {
            due(call + " byteAt(" + i + ")", bus.byteAt(i), want[i]);
        }
        illegalArgument(call + " byteAt(" + want.length + ")", () -> bus.byteAt(want.length));
    }

    /**
     * Disturbs an idle line so that it hears these characters from its next bit time on, as if a
     * station that is none of the eight had said them, and runs up to the last bit of the last one.
     */
    static void sayByDisturbing(BusTelegrams bus, int... bytes) {
        for (int i = 0; i < bytes.length; i++) {
            String part = i + 1 < bytes.length ? bits(bytes[i]) + "11" : bits(bytes[i]);
            for (int k = 0; k < part.length(); k++) {
                if (part.charAt(k) == '0') {
                    bus.disturb(k + 1);
                }
            }
            bus.run(part.length());
        }
    }
}
