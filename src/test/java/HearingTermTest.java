import java.util.Arrays;

/** Terms, HEARING: a test for each sentence, with lines that are made by disturbing alone. */
public final class HearingTermTest {
    // The parity of 0 is 0, and so is that of 255: ten 1s behind a 0 are a bad character.
    private static final String GOOD = Checks.bits(0);
    private static final String BAD = "0" + Checks.ones(10);

    public static void main(String[] args) {
        beginsWithAZero();
        hasElevenBits();
        isCompleteWithTheThirdOne();
        isCompleteWithAZeroAtOnce();
        isCompleteWithAZeroBehindOneOne();
        goesOnWithAZeroBehindTwoOnes();
        beginsAnewBehindWhatIsComplete();
        isBadByItsParity();
        isBadByItsLastBit();
        isATelegramFromEightCharactersOn();
        isNoTelegramWithABadOne();
        isRightByItsCheck();
        isRightByHowManyBytes();
        endsWithItsLastCharactersLastBit();
        isAllElseNoise();
        Checks.finish();
    }

    private static BusTelegrams played(String line) {
        BusTelegrams bus = new BusTelegrams();
        Checks.play(bus, line);
        return bus;
    }

    private static void dueNoise(String line, int want) {
        BusTelegrams bus = played(line);
        Checks.dueHeard("behind " + line, bus, 0, 0, want, 0, 0);
    }

    private static void beginsWithAZero() {
        dueNoise(Checks.ones(200), 0);
        for (int before : new int[] {0, 1, 2, 3, 10, 11, 12, 13, 14, 60}) {
            dueNoise(Checks.ones(before) + BAD + "11", 0);
            dueNoise(Checks.ones(before) + BAD + "111", 1);
        }
    }

    /** If it had ten or twelve, 0s in the eleventh and behind it would mean another thing. */
    private static void hasElevenBits() {
        dueNoise("0" + Checks.ones(9) + "0" + "11", 0);
        dueNoise("0" + Checks.ones(9) + "0" + "111", 1);
        dueNoise("0" + Checks.ones(8) + "00" + "111", 1);
        for (int bit = 1; bit <= 10; bit++) {
            String line = "0" + Checks.ones(bit - 1) + "0" + Checks.ones(10 - bit);
            dueNoise(line + "11", 0);
            dueNoise(line + "111", 1);
            dueNoise(line + "111" + Checks.ones(60), 1);
        }
        dueNoise("0".repeat(11) + "11", 0);
        dueNoise("0".repeat(11) + "111", 1);
        dueNoise("0".repeat(12), 1);
        dueNoise("0".repeat(22), 1);
        dueNoise("0".repeat(23), 2);
    }

    private static void isCompleteWithTheThirdOne() {
        for (String character : new String[] {GOOD, BAD}) {
            dueNoise(character, 0);
            dueNoise(character + "1", 0);
            dueNoise(character + "11", 0);
            dueNoise(character + "111", 1);
            dueNoise(character + "1111", 1);
            dueNoise(character + Checks.ones(70), 1);
        }
    }

    private static void isCompleteWithAZeroAtOnce() {
        for (String character : new String[] {GOOD, BAD}) {
            dueNoise(character + "0", 1);
            dueNoise(character + "0" + Checks.ones(10) + "11", 1);
            dueNoise(character + "0" + Checks.ones(10) + "111", 2);
            dueNoise(character + "0" + Checks.ones(10) + "0", 2);
        }
    }

    private static void isCompleteWithAZeroBehindOneOne() {
        for (String character : new String[] {GOOD, BAD}) {
            dueNoise(character + "1", 0);
            dueNoise(character + "10", 1);
            dueNoise(character + "10" + Checks.ones(10) + "11", 1);
            dueNoise(character + "10" + Checks.ones(10) + "111", 2);
            dueNoise(character + "10" + Checks.ones(10) + "10", 2);
        }
    }

    private static void goesOnWithAZeroBehindTwoOnes() {
        for (String character : new String[] {GOOD, BAD}) {
            dueNoise(character + "110", 0);
            dueNoise(character + "110" + Checks.ones(10) + "11", 0);
            dueNoise(character + "110" + Checks.ones(10) + "111", 1);
            dueNoise(character + "110" + Checks.ones(10) + "11" + character + "11", 0);
            dueNoise(character + "110" + Checks.ones(10) + "11" + character + "111", 1);
        }
    }

    private static void beginsAnewBehindWhatIsComplete() {
        dueNoise(GOOD + "111" + BAD + "11", 1);
        dueNoise(GOOD + "111" + BAD + "111", 2);
        dueNoise(GOOD + "1111" + BAD + "111", 2);

        // Eight characters are one telegram, and with a third 1 in any gap two things of noise.
        int[] bytes = Checks.telegram(176, 9, 99, 0, 5);
        for (int first = 1; first <= 7; first++) {
            StringBuilder line = new StringBuilder();
            for (int i = 0; i < 8; i++) {
                line.append(Checks.bits(bytes[i])).append(i + 1 == first ? "111" : "11");
            }
            dueNoise(line + "1", 2);
        }
        for (String gap : new String[] {"", "1"}) {
            StringBuilder line = new StringBuilder(Checks.bits(bytes[0]));
            for (int i = 1; i < 8; i++) {
                line.append(i == 4 ? gap : "11").append(Checks.bits(bytes[i]));
            }
            dueNoise(line + "111", 2);
        }

        // Nothing of the thing before is left in the next one: nine characters, then eight.
        BusTelegrams bus = played(Checks.bits(Checks.telegram(176, 9, 99, 1, 5, 6)) + Checks.ones(20)
            + Checks.bits(bytes) + "111");
        Checks.dueHeard("two telegrams", bus, 2, 2, 0, 0, 0);
        Checks.dueBytes("the second one", bus, bytes);
        Checks.play(bus, Checks.ones(20) + BAD + Checks.ones(20) + Checks.bits(bytes) + "111");
        Checks.dueHeard("behind a bad one", bus, 3, 3, 1, 0, 0);
    }

    private static String withBit(String line, int at, char bit) {
        return line.substring(0, at) + bit + line.substring(at + 1);
    }

    private static char other(char bit) {
        return bit == '0' ? '1' : '0';
    }

    /** One bit of the eight or the parity the other way round, in each of the characters. */
    private static void isBadByItsParity() {
        String line = Checks.bits(Checks.telegram(176, 9, 99, 0, 255));
        Checks.dueHeard("none is bad", played(line + "111"), 1, 1, 0, 0, 0);
        for (int i = 0; i < 8; i++) {
            for (int bit = 1; bit <= 9; bit++) {
                int at = 13 * i + bit;
                BusTelegrams bus = played(withBit(line, at, other(line.charAt(at))) + "111");
                Checks.dueHeard("character " + i + ", bit " + bit, bus, 0, 0, 1, 0, 0);
            }
            // Two bits the other way round: the parity holds, the check does not.
            int at = 13 * i + 3;
            String twice = withBit(line, at, other(line.charAt(at)));
            twice = withBit(twice, at + 5, other(line.charAt(at + 5)));
            Checks.dueHeard("character " + i + ", two bits", played(twice + "111"), 1, 0, 0, 0, 0);
        }
    }

    private static void isBadByItsLastBit() {
        String line = Checks.bits(Checks.telegram(176, 9, 99, 0, 5));
        for (int i = 0; i < 8; i++) {
            BusTelegrams bus = played(withBit(line, 13 * i + 10, '0') + "11");
            Checks.dueHeard("last bit of " + i + ", so far", bus, 0, 0, 0, 0, 0);
            bus.run(1);
            Checks.dueHeard("last bit of " + i, bus, 0, 0, 1, 0, 0);
        }
    }

    private static void isATelegramFromEightCharactersOn() {
        int[] bytes = {176, 0, 9, 0, 99, 13, 1, 2, 3, 4, 5, 6, 7, 8, 9, 10, 11, 12, 13, 14, 0, 1, 2};
        for (int count = 1; count <= bytes.length; count++) {
            int[] some = Arrays.copyOf(bytes, count);
            BusTelegrams bus = played(Checks.bits(some) + "11");
            Checks.dueHeard(count + " characters, so far", bus, 0, 0, 0, 0, 0);
            bus.run(1);
            boolean telegram = count >= 8;
            Checks.dueHeard(count + " characters", bus, telegram ? 1 : 0, 0, telegram ? 0 : 1, 0, 0);
            if (telegram) {
                Checks.dueBytes(count + " characters", bus, some);
            } else {
                Checks.illegalArgument(count + " characters: byteAt(0)", () -> bus.byteAt(0));
            }
        }
    }

    private static void isNoTelegramWithABadOne() {
        String line = Checks.bits(176, 0, 9, 0, 99, 1, 5, 6);
        for (String all : new String[] {BAD + "11" + line, line + "11" + BAD, line + "11" + BAD + "11" + line}) {
            Checks.dueHeard("with a bad one", played(all + "111"), 0, 0, 1, 0, 0);
        }
    }

    private static void isRightByItsCheck() {
        int[] bytes = Checks.telegram(188, 9, 99, 0, 5);
        Checks.dueHeard("right", played(Checks.bits(bytes) + "111"), 1, 1, 0, 0, 0);
        for (int i = 0; i < 8; i++) {
            for (int bit = 0; bit < 8; bit++) {
                int[] wrong = bytes.clone();
                wrong[i] ^= 1 << bit;
                BusTelegrams bus = played(Checks.bits(wrong) + "111");
                Checks.dueHeard("byte " + i + ", bit " + bit, bus, 1, 0, 0, 0, 0);
            }
        }
        // 255 ^ all, and not all alone; and no sum.
        int[] other = bytes.clone();
        other[7] ^= 255;
        Checks.dueHeard("without 255", played(Checks.bits(other) + "111"), 1, 0, 0, 0, 0);
        int[] swapped = {bytes[0] ^ 64, bytes[1], bytes[2], bytes[3], bytes[4], bytes[5], bytes[6] ^ 64, bytes[7]};
        Checks.dueHeard("two that make good", played(Checks.bits(swapped) + "111"), 1, 1, 0, 0, 0);
    }

    /** Its check is right each time. */
    private static void isRightByHowManyBytes() {
        for (int n = 1; n <= 14; n++) {
            for (int group = 0; group <= 128; group += 128) {
                for (int more = -1; more <= 1; more++) {
                    int sixth = group + n - 1 + more;
                    if (n - 1 + more >= 0) {
                        int[] bytes = Checks.telegram(176, 9, 99, sixth, new int[n]);
                        BusTelegrams bus = played(Checks.bits(bytes) + "111");
                        int right = more == 0 ? 1 : 0;
                        Checks.dueHeard("n " + n + ", sixth " + sixth, bus, 1, right, 0, 0, 0);
                    }
                }
            }
        }
    }

    /** In T + 14 of that: a station that is meant shows by its answer which bit time it was. */
    private static void endsWithItsLastCharactersLastBit() {
        for (int n : new int[] {1, 2, 14}) {
            BusTelegrams bus = played(Checks.bits(Checks.telegram(176, 9, 3, n - 1, new int[n])));
            Checks.dueLine("n " + n, Checks.lineOf(bus, 27), Checks.ones(13) + Checks.bits(204) + "111");
        }
        // It may be complete behind T + 1, T + 2 or T + 3: T is the same.
        String line = Checks.bits(Checks.telegram(176, 9, 3, 0, 5));
        for (int zero = 1; zero <= 2; zero++) {
            BusTelegrams bus = played(line + "1".repeat(zero - 1));
            Checks.dueHeard("not yet complete", bus, 0, 0, 0, 0, 0);
            bus.disturb(1);
            bus.run(1);
            Checks.dueHeard("complete in T + " + zero, bus, 1, 1, 0, 0, 0);
            bus.run(13 - zero);
            Checks.due("T + 13", bus.bit(0), 1);
            Checks.dueLine("T + 14 ..", Checks.lineOf(bus, 11), Checks.bits(204));
        }
    }

    private static void isAllElseNoise() {
        // An answer without a telegram, wherever it begins: also in 14, as if one had ended in 0.
        for (int before = 0; before <= 40; before++) {
            dueNoise(Checks.ones(before) + Checks.bits(204) + "111", 1);
        }
        // Not even 14 bit times behind noise of one good character, or of seven.
        dueNoise(GOOD + Checks.ones(13) + Checks.bits(204) + "111", 2);
        dueNoise(Checks.bits(176, 0, 9, 0, 99, 0, 5) + Checks.ones(13) + Checks.bits(204) + "111", 2);
    }
}
