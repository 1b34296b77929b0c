import java.util.ArrayList;
import java.util.List;

/** What all tests share: counting wrong answers, and telegrams worked out by hand's rules. */
final class Checks {
    interface Call {
        void make();
    }

    private static int wrong = 0;

    private Checks() {
    }

    static void due(String call, long got, long want) {
        if (got != want) {
            wrong++;
            System.out.println(call + " answered " + got + ", due is " + want);
        }
    }

    static void due(String call, boolean got, boolean want) {
        due(call, got ? 1 : 0, want ? 1 : 0);
    }

    /** Two doubles are the same if their bits are: a negative zero is not a zero. */
    static void dueDouble(String call, double got, double want) {
        if (Double.doubleToLongBits(got) != Double.doubleToLongBits(want)) {
            wrong++;
            System.out.println(call + " answered " + got + ", due is " + want);
        }
    }

    static void illegalArgument(String call, Call made) {
        thrown(call, made, IllegalArgumentException.class);
    }

    static void illegalState(String call, Call made) {
        thrown(call, made, IllegalStateException.class);
    }

    private static void thrown(String call, Call made, Class<?> want) {
        Class<?> got = null;
        try {
            made.make();
        } catch (RuntimeException e) {
            got = e.getClass();
        }
        if (got != want) {
            wrong++;
            System.out.println(call + " threw " + got + ", due is " + want);
        }
    }

    static void finish() {
        if (wrong != 0) {
            System.out.println(wrong + " answers are not as due");
            System.exit(1);
        }
    }

    /** Runs more than one call of run may. */
    static void runFor(BusTelegrams bus, int bits) {
        int left = bits;
        while (left > 0) {
            int part = Math.min(left, 2000);
            bus.run(part);
            left -= part;
        }
    }

    /** A telegram's bytes, with the check behind them. */
    static int[] telegram(int control, int sender, int aim, int sixth, int... data) {
        int[] bytes = new int[7 + data.length];
        bytes[0] = control;
        bytes[1] = sender / 256;
        bytes[2] = sender % 256;
        bytes[3] = aim / 256;
        bytes[4] = aim % 256;
        bytes[5] = sixth;
        System.arraycopy(data, 0, bytes, 6, data.length);
        int check = 255;
        for (int i = 0; i < bytes.length - 1; i++) {
            check ^= bytes[i];
        }
        bytes[bytes.length - 1] = check;
        return bytes;
    }

    /** The bits of characters with two 1 between them. */
    static String bits(int... bytes) {
        List<String> characters = new ArrayList<>();
        for (int one : bytes) {
            StringBuilder character = new StringBuilder("0");
            boolean odd = false;
            for (int rest = one, i = 0; i < 8; i++, rest /= 2) {
                character.append(rest % 2);
                odd ^= rest % 2 == 1;
            }
            characters.add(character.append(odd ? "11" : "01").toString());
        }
        return String.join("11", characters);
    }

    /** Runs and tells what the line was, with as few calls as may be: an object has 512. */
    static String lineOf(BusTelegrams bus, int bits) {
        StringBuilder line = new StringBuilder();
        int left = bits;
        while (left > 0) {
            int part = Math.min(left, 64);
            bus.run(part);
            for (int back = part - 1; back >= 0; back--) {
                line.append(bus.bit(back));
            }
            left -= part;
        }
        return line.toString();
    }

    /** Disturbs the next bit times that have a 0 here, and runs through all of them. */
    static void play(BusTelegrams bus, String line) {
        for (int begin = 0; begin < line.length(); begin += 50) {
            String part = line.substring(begin, Math.min(begin + 50, line.length()));
            for (int i = 0; i < part.length(); i++) {
                if (part.charAt(i) == '0') {
                    bus.disturb(i + 1);
                }
            }
            bus.run(part.length());
        }
    }

    static String ones(int count) {
        return "1".repeat(count);
    }

    /** How many 1s a telegram or a character ends with: they count for what is idle behind it. */
    static int onesAtTheEnd(String line) {
        return line.length() - 1 - line.lastIndexOf('0');
    }

    /** All of what station, or heard, tells. */
    static void dueFacts(String when, BusTelegrams bus, int station, int... want) {
        for (int what = 0; what < 6; what++) {
            String call = when + ": station(" + station + ", " + what + ")";
            due(call, bus.station(station, what), want[what]);
        }
    }

    static void dueHeard(String when, BusTelegrams bus, int... want) {
        for (int what = 0; what < 5; what++) {
            due(when + ": heard(" + what + ")", bus.heard(what), want[what]);
        }
    }

    static void dueLine(String call, String got, String want) {
        if (!got.equals(want)) {
            wrong++;
            System.out.println(call + " was\n  " + got + ", due is\n  " + want);
        }
    }

    static void dueBytes(String call, BusTelegrams bus, int... want) {
        for (int i = 0; i < want.length; i++) {
            due(call + " byteAt(" + i + ")", bus.byteAt(i), want[i]);
        }
        illegalArgument(call + " byteAt(" + want.length + ")", () -> bus.byteAt(want.length));
    }

    /**
     * Disturbs an idle line so that it hears these characters from its next bit time on, as if a
     * station that is none of the eight had said them, and runs up to the last bit of the last one.
     */
    static void sayByDisturbing(BusTelegrams bus, int... bytes) {
        play(bus, bits(bytes));
    }
}
