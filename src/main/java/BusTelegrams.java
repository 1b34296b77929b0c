/**
 * A house bus of one line with eight stations. All stations see the same line, so hearing is done
 * once, by one ear; each station keeps what it says, waits for and answers.
 */
public final class BusTelegrams {
    public static final int NONE = -1;

    private static final int STATIONS = 8;
    private static final int ADDRESSES = 65536;
    private static final int GROUPS = 256;
    private static final int BYTES = 256;
    private static final int PRIORITIES = 4;
    private static final int STATION_FACTS = 6;
    private static final int HEARD_FACTS = 5;
    private static final int MOST_IN_QUEUE = 6;
    private static final int MOST_DATA = 14;
    private static final int MOST_BEHIND = 2000;
    private static final int MOST_DISTURBANCES = 50;
    private static final int MOST_AT_ONCE = 2000;
    private static final int MOST_BIT_TIMES = 100000;
    private static final int BITS_KEPT = 64;
    // A power of two above MOST_BEHIND: no two bit times that are told at once share a place.
    private static final int DISTURBANCE_PLACES = 2048;

    // A telegram's bytes without its data: six before them, the check behind them.
    private static final int BYTES_BESIDE_DATA = 7;
    private static final int LEAST_TELEGRAM = 8;
    private static final int SIXTH = 5;
    private static final int FOR_A_GROUP = 128;
    private static final int CHARACTER_BITS = 11;
    private static final int GAP_BITS = 2;
    private static final int BITS_PER_BYTE = CHARACTER_BITS + GAP_BITS;

    private static final int ANSWER_BEHIND = 14;
    private static final int WAIT_BITS = 28;
    private static final int MOST_SAYINGS = 4;
    private static final int IDLE_TO_BEGIN = 50;
    private static final int IDLE_TO_BEGIN_FIRST = 53;
    private static final int ANSWER_TAKEN = 204;
    private static final int ANSWER_BUSY = 192;
    private static final int ANSWER_WRONG = 12;

    private static final int MANTISSAS = 2048;
    private static final int MOST_EXPONENT = 15;
    private static final int BELOW_ZERO = 32768;

    private final Station[] stations = new Station[STATIONS];
    private final Ear ear = new Ear();
    private final boolean[] disturbed = new boolean[DISTURBANCE_PLACES];
    private int disturbances = 0;
    private final int[] latestBits = new int[BITS_KEPT];
    private int now = 0;
    // At first the line counts as idle for as long as any station needs.
    private int idle = IDLE_TO_BEGIN_FIRST;

    public BusTelegrams() {
        for (int i = 0; i < STATIONS; i++) {
            stations[i] = new Station(i);
        }
    }

    public int address(int station, int address) throws IllegalArgumentException {
        if (isOutside(station, STATIONS) || isOutside(address, ADDRESSES)) {
            throw new IllegalArgumentException("no such station or address");
        }
        Station it = stations[station];
        int before = it.ownAddress;
        it.ownAddress = address;
        return before;
    }

    public boolean listen(int station, int group, boolean on) throws IllegalArgumentException {
        if (isOutside(station, STATIONS) || isOutside(group, GROUPS)) {
            throw new IllegalArgumentException("no such station or group");
        }
        Station it = stations[station];
        boolean before = it.groups[group];
        it.groups[group] = on;
        return before;
    }

    public boolean busy(int station, boolean on) throws IllegalArgumentException {
        if (isOutside(station, STATIONS)) {
            throw new IllegalArgumentException("no such station");
        }
        Station it = stations[station];
        boolean before = it.isBusy;
        it.isBusy = on;
        return before;
    }

    public int send(int station, int priority, int aim, boolean group, int n, int b)
            throws IllegalArgumentException, IllegalStateException {
        if (isOutside(station, STATIONS) || isOutside(priority, PRIORITIES)) {
            throw new IllegalArgumentException("no such station or priority");
        }
        if (isOutside(aim, group ? GROUPS : ADDRESSES)) {
            throw new IllegalArgumentException("the aim is no address or no group");
        }
        if (n < 1 || n > MOST_DATA || isOutside(b, BYTES)) {
            throw new IllegalArgumentException("no such data");
        }
        Station from = stations[station];
        if (from.queued >= MOST_IN_QUEUE) {
            throw new IllegalStateException("the queue is full");
        }
        Telegram telegram = from.addToQueue();
        telegram.setHead(priority, from.ownAddress, aim);
        telegram.setData(group, n, b);
        telegram.seal();
        return from.queued;
    }

    public boolean disturb(int behind) throws IllegalArgumentException, IllegalStateException {
        if (behind < 1 || behind > MOST_BEHIND) {
            throw new IllegalArgumentException("not so many bit times behind this one");
        }
        if (disturbances >= MOST_DISTURBANCES) {
            throw new IllegalStateException("too many disturbances are to come");
        }
        int place = disturbancePlace(now + behind);
        if (disturbed[place]) {
            return false;
        }
        disturbed[place] = true;
        disturbances++;
        return true;
    }

    public int run(int n) throws IllegalArgumentException, IllegalStateException {
        if (n < 1 || n > MOST_AT_ONCE) {
            throw new IllegalArgumentException("not so many bit times at once");
        }
        if (now + n > MOST_BIT_TIMES) {
            throw new IllegalStateException("too many bit times in all");
        }
        for (int i = 0; i < n; i++) {
            passBitTime();
        }
        return now;
    }

    public int bit(int back) throws IllegalArgumentException {
        if (isOutside(back, BITS_KEPT) || back >= now) {
            throw new IllegalArgumentException("no such bit time is kept");
        }
        return latestBits[bitPlace(now - back)];
    }

    public int station(int station, int what) throws IllegalArgumentException {
        if (isOutside(station, STATIONS) || isOutside(what, STATION_FACTS)) {
            throw new IllegalArgumentException("no such station or no such fact of it");
        }
        return stations[station].factOf(what);
    }

    public int heard(int what) throws IllegalArgumentException {
        if (isOutside(what, HEARD_FACTS)) {
            throw new IllegalArgumentException("no such count");
        }
        return ear.countOf(what);
    }

    public int byteAt(int i) throws IllegalArgumentException {
        if (isOutside(i, ear.latestCount)) {
            throw new IllegalArgumentException("the latest telegram has no such byte");
        }
        return ear.latestByte(i);
    }

    public int answer() {
        return ear.latestAnswer;
    }

    public int pack(double v) {
        if (v != v) {
            return 0;
        }
        double hundredfold = 100.0 * v;
        for (int e = 0; e <= MOST_EXPONENT; e++) {
            double rounded = hundredfold / (double) (1 << e) + 0.5;
            if (rounded >= (double) -MANTISSAS && rounded < (double) MANTISSAS) {
                return packedOf(wholeNotAbove(rounded), e);
            }
        }
        return packedOf(v < 0.0 ? -MANTISSAS : MANTISSAS - 1, MOST_EXPONENT);
    }

    public double unpack(int packed) throws IllegalArgumentException {
        if (isOutside(packed, 2 * BELOW_ZERO)) {
            throw new IllegalArgumentException("not two bytes");
        }
        int e = packed / MANTISSAS % (MOST_EXPONENT + 1);
        int m = packed % MANTISSAS;
        if (packed >= BELOW_ZERO) {
            m -= MANTISSAS;
        }
        return (double) (m * (1 << e)) / 100.0;
    }

    private static boolean isOutside(int number, int end) {
        return number < 0 || number >= end;
    }

    private static int disturbancePlace(int time) {
        return time & (DISTURBANCE_PLACES - 1);
    }

    private static int bitPlace(int time) {
        return time & (BITS_KEPT - 1);
    }

    private static int packedOf(int m, int e) {
        return (m < 0 ? BELOW_ZERO : 0) + MANTISSAS * e + (m & (MANTISSAS - 1));
    }

    /** Only for numbers that are far inside the bounds of int. */
    private static int wholeNotAbove(double number) {
        int whole = (int) number;
        return (double) whole > number ? whole - 1 : whole;
    }

    /** The bit at a place in a character and in the 1s behind it. */
    private static int characterBit(int value, int place) {
        if (place == 0) {
            return 0;
        }
        if (place >= 1 && place <= 8) {
            return value >> (place - 1) & 1;
        }
        return place == 9 ? Integer.bitCount(value) & 1 : 1;
    }

    private void passBitTime() {
        now++;
        beginAnswers();
        int line = sentByAll();
        if (takeDisturbance()) {
            line = 0;
        }
        for (int i = 0; i < STATIONS; i++) {
            stations[i].seeLine(line, now);
        }
        ear.take(line, now);
        // Behind all else, so that an answer that is complete in this bit time counts.
        boolean accepted = ear.isAccepted(now);
        for (int i = 0; i < STATIONS; i++) {
            stations[i].endWait(accepted, now);
        }
        idle = line == 1 ? idle + 1 : 0;
        latestBits[bitPlace(now)] = line;
    }

    private void beginAnswers() {
        if (!ear.isAnswerDue(now)) {
            return;
        }
        for (int i = 0; i < STATIONS; i++) {
            Station it = stations[i];
            if (it.isMeant(ear.latestAim(), ear.isLatestForGroup())) {
                it.beginAnswer(ear.latestRight);
            }
        }
    }

    private int sentByAll() {
        int line = 1;
        for (int i = 0; i < STATIONS; i++) {
            line &= stations[i].nextBit(idle);
        }
        return line;
    }

    private boolean takeDisturbance() {
        int place = disturbancePlace(now);
        if (!disturbed[place]) {
            return false;
        }
        disturbed[place] = false;
        disturbances--;
        return true;
    }

    /** A telegram in a queue, used again for another one when it has gone from there. */
    private static final class Telegram {
        private static final int FIRST_CONTROL = 176;
        private static final int SAID_BEFORE = 32;

        private final int[] bytes = new int[BYTES_BESIDE_DATA + MOST_DATA];
        private int length = LEAST_TELEGRAM;
        private int priority = 0;
        private int sayings = 0;

        void setHead(int newPriority, int sender, int aim) {
            priority = newPriority;
            sayings = 0;
            bytes[1] = sender >> 8 & 255;
            bytes[2] = sender & 255;
            bytes[3] = aim >> 8 & 255;
            bytes[4] = aim & 255;
        }

        void setData(boolean group, int n, int b) {
            int count = Math.max(1, Math.min(n, MOST_DATA));
            bytes[SIXTH] = (group ? FOR_A_GROUP : 0) + count - 1;
            for (int i = 0; i < count; i++) {
                bytes[SIXTH + 1 + i] = b + i & 255;
            }
            length = BYTES_BESIDE_DATA + count;
        }

        /** Control and check change when the telegram has been said for the first time. */
        void seal() {
            bytes[0] = FIRST_CONTROL + 4 * priority - (sayings > 0 ? SAID_BEFORE : 0);
            int last = Math.max(0, Math.min(length, bytes.length) - 1);
            int check = 255;
            for (int i = 0; i < last; i++) {
                check ^= bytes[i];
            }
            bytes[last] = check;
        }

        int idleNeeded() {
            return priority >= 2 && sayings == 0 ? IDLE_TO_BEGIN_FIRST : IDLE_TO_BEGIN;
        }

        int lineBit(int place) {
            int i = place / BITS_PER_BYTE;
            if (place < 0 || i >= bytes.length) {
                return 1;
            }
            return characterBit(bytes[i], place % BITS_PER_BYTE);
        }

        int bitCount() {
            return BITS_PER_BYTE * length - GAP_BITS;
        }

        void countSaying() {
            sayings++;
            seal();
        }
    }

    private static final class Station {
        private static final int NOWHERE = -1;

        private final boolean[] groups = new boolean[GROUPS];
        private final Telegram[] queue = new Telegram[MOST_IN_QUEUE];
        private int ownAddress;
        private boolean isBusy = false;
        private int first = 0;
        private int queued = 0;
        // The place of the bit that it says in this bit time, or has said last.
        private int sayPlace = NOWHERE;
        private int sentBit = 1;
        private boolean waits = false;
        private int waitEnd = 0;
        private int answerPlace = NOWHERE;
        private int answerByte = 0;
        private int saidCount = 0;
        private int lostCount = 0;
        private int stopCount = 0;

        Station(int number) {
            ownAddress = number;
            for (int i = 0; i < MOST_IN_QUEUE; i++) {
                queue[i] = new Telegram();
            }
        }

        /** The caller has seen that there is room. */
        Telegram addToQueue() {
            Telegram added = queueAt(queued);
            queued++;
            return added;
        }

        private Telegram queueAt(int behindFirst) {
            return queue[Math.floorMod(first + behindFirst, MOST_IN_QUEUE)];
        }

        boolean isMeant(int aim, boolean forGroup) {
            if (waits || sayPlace != NOWHERE) {
                return false;
            }
            if (!forGroup) {
                return ownAddress == aim;
            }
            return aim >= 0 && aim < GROUPS && groups[aim];
        }

        void beginAnswer(boolean right) {
            answerPlace = 0;
            answerByte = !right ? ANSWER_WRONG : isBusy ? ANSWER_BUSY : ANSWER_TAKEN;
        }

        /** What it sends in this bit time; 1 also if it sends nothing. */
        int nextBit(int idle) {
            if (answerPlace != NOWHERE) {
                return nextAnswerBit();
            }
            if (sayPlace != NOWHERE) {
                sayPlace++;
            } else if (queued > 0 && !waits && idle >= queueAt(0).idleNeeded()) {
                sayPlace = 0;
            }
            sentBit = sayPlace == NOWHERE ? 1 : queueAt(0).lineBit(sayPlace);
            return sentBit;
        }

        private int nextAnswerBit() {
            int sent = characterBit(answerByte, answerPlace);
            answerPlace = answerPlace + 1 < CHARACTER_BITS ? answerPlace + 1 : NOWHERE;
            return sent;
        }

        void seeLine(int line, int time) {
            if (sayPlace == NOWHERE) {
                return;
            }
            if (sentBit == 1 && line == 0) {
                sayPlace = NOWHERE;
                stopCount++;
            } else if (sayPlace + 1 >= queueAt(0).bitCount()) {
                sayPlace = NOWHERE;
                queueAt(0).countSaying();
                waits = true;
                waitEnd = time + WAIT_BITS;
            }
        }

        void endWait(boolean accepted, int time) {
            if (!waits || time < waitEnd) {
                return;
            }
            waits = false;
            if (accepted) {
                saidCount++;
                removeFirst();
            } else if (queueAt(0).sayings >= MOST_SAYINGS) {
                lostCount++;
                removeFirst();
            }
        }

        private void removeFirst() {
            first = (first + 1) % MOST_IN_QUEUE;
            queued--;
        }

        int factOf(int what) {
            switch (what) {
                case 0:
                    return queued;
                case 1:
                    return sayPlace != NOWHERE ? 1 : 0;
                case 2:
                    return waits ? 1 : 0;
                case 3:
                    return saidCount;
                case 4:
                    return lostCount;
                default:
                    return stopCount;
            }
        }
    }

    /** Hears the line: characters, what they make when complete, and the latest telegram. */
    private static final class Ear {
        // Behind the 21 characters of a telegram each one more needs a call of disturb for its
        // first 0, and an object has 512 calls: what is heard never has more characters.
        private static final int MOST_CHARACTERS = 600;
        // So far back that no bit time is 14 or 28 behind it.
        private static final int LONG_AGO = -1000;

        private static final int NOTHING = 0;
        private static final int CHARACTER = 1;
        private static final int GAP = 2;

        private final int[] bytes = new int[MOST_CHARACTERS];
        private final int[] latest = new int[MOST_CHARACTERS];
        private final int[] counts = new int[HEARD_FACTS];
        private int state = NOTHING;
        // How many bits of the character, or 1s of the gap, there were.
        private int seen = 0;
        private int value = 0;
        private int ones = 0;
        private int count = 0;
        private boolean anyBad = false;
        private int beginTime = 0;
        private int endTime = 0;
        private int latestCount = 0;
        private int latestEnd = LONG_AGO;
        private boolean latestRight = false;
        private int latestAnswer = NONE;
        private boolean otherSince = false;

        void take(int line, int time) {
            if (state == CHARACTER) {
                takeInCharacter(line, time);
            } else if (state == GAP) {
                takeInGap(line, time);
            } else if (line == 0) {
                begin(time);
            }
        }

        private void begin(int time) {
            beginTime = time;
            count = 0;
            anyBad = false;
            beginCharacter();
        }

        private void beginCharacter() {
            state = CHARACTER;
            seen = 1;
            value = 0;
            ones = 0;
        }

        private void takeInCharacter(int line, int time) {
            seen++;
            if (seen == CHARACTER_BITS) {
                endCharacter(line, time);
                return;
            }
            ones += line;
            if (seen < CHARACTER_BITS - 1) {
                value += line << (seen - 2);
            }
        }

        private void endCharacter(int line, int time) {
            if (line == 0 || (ones & 1) == 1 || count >= MOST_CHARACTERS) {
                anyBad = true;
            }
            if (count < MOST_CHARACTERS) {
                bytes[count] = value;
                count++;
            }
            endTime = time;
            state = GAP;
            seen = 0;
        }

        private void takeInGap(int line, int time) {
            if (line == 0 && seen == GAP_BITS) {
                beginCharacter();
                return;
            }
            if (line == 1 && seen < GAP_BITS) {
                seen++;
                return;
            }
            state = NOTHING;
            complete();
            if (line == 0) {
                begin(time);
            }
        }

        private void complete() {
            if (!anyBad && count >= LEAST_TELEGRAM) {
                completeTelegram();
                return;
            }
            otherSince = true;
            if (!anyBad && count == 1 && beginTime == latestEnd + ANSWER_BEHIND) {
                latestAnswer = bytes[0];
                counts[latestAnswer == ANSWER_TAKEN ? 3 : 4]++;
            } else {
                counts[2]++;
            }
        }

        private void completeTelegram() {
            int all = 0;
            for (int i = 0; i < count && i < MOST_CHARACTERS; i++) {
                latest[i] = bytes[i];
                all ^= bytes[i];
            }
            latestCount = count;
            latestEnd = endTime;
            latestAnswer = NONE;
            otherSince = false;
            int told = BYTES_BESIDE_DATA + 1 + latest[SIXTH] % FOR_A_GROUP;
            latestRight = all == 255 && count == told;
            counts[0]++;
            if (latestRight) {
                counts[1]++;
            }
        }

        boolean isAnswerDue(int time) {
            return time == latestEnd + ANSWER_BEHIND && !otherSince;
        }

        boolean isAccepted(int time) {
            return time == latestEnd + WAIT_BITS && latestAnswer == ANSWER_TAKEN;
        }

        int latestAim() {
            return 256 * latest[3] + latest[4];
        }

        boolean isLatestForGroup() {
            return latest[SIXTH] >= FOR_A_GROUP;
        }

        int latestByte(int i) {
            return i < 0 || i >= MOST_CHARACTERS ? 0 : latest[i];
        }

        int countOf(int what) {
            return what < 0 || what >= HEARD_FACTS ? 0 : counts[what];
        }
    }
}
