import java.util.ArrayDeque;
import java.util.ArrayList;
import java.util.HashSet;
import java.util.List;
import java.util.Set;

/**
 * The document written a second time, as plainly as it reads and in another way than the program:
 * it keeps the whole line, hears by reading the line anew, and knows bits as texts.
 */
final class PlainBus {
    private static final class Said {
        int priority;
        int sender;
        int aim;
        int sixth;
        int b;
        int times;

        String text() {
            int[] data = new int[sixth % 128 + 1];
            for (int i = 0; i < data.length; i++) {
                data[i] = (b + i) % 256;
            }
            int control = 176 + 4 * priority - (times > 0 ? 32 : 0);
            return Checks.bits(Checks.telegram(control, sender, aim, sixth, data));
        }
    }

    private static final class Member {
        int address;
        boolean busy;
        final Set<Integer> groups = new HashSet<>();
        final ArrayDeque<Said> queue = new ArrayDeque<>();
        int begin = 0;
        String text = "";
        int ended = 0;
        int said = 0;
        int lost = 0;
        int stopped = 0;
    }

    private static final class Thing {
        int begin;
        int end;
        int next;
        boolean bad;
        final List<Integer> bytes = new ArrayList<>();
    }

    private final Member[] members = new Member[8];
    private final StringBuilder line = new StringBuilder();
    private final Set<Integer> told = new HashSet<>();
    private final Set<Integer> answerZeros = new HashSet<>();
    private final int[] counts = new int[5];
    private int readFrom = 1;
    private Thing latest = null;
    private Thing lastComplete = null;
    private int answer = -1;

    PlainBus() {
        for (int i = 0; i < 8; i++) {
            members[i] = new Member();
            members[i].address = i;
        }
    }

    private static void argument(boolean fine) {
        if (!fine) {
            throw new IllegalArgumentException();
        }
    }

    private static void state(boolean fine) {
        if (!fine) {
            throw new IllegalStateException();
        }
    }

    private static boolean within(int number, int least, int most) {
        return least <= number && number <= most;
    }

    int now() {
        return line.length();
    }

    /** When the telegram that is being said will end, or the latest one ended. */
    int end() {
        for (Member m : members) {
            if (m.begin != 0) {
                return m.begin + m.text.length() - 1;
            }
        }
        return latest == null ? 0 : latest.end;
    }

    int address(int station, int address) {
        argument(within(station, 0, 7) && within(address, 0, 65535));
        int before = members[station].address;
        members[station].address = address;
        return before;
    }

    boolean listen(int station, int group, boolean on) {
        argument(within(station, 0, 7) && within(group, 0, 255));
        Set<Integer> groups = members[station].groups;
        return on ? !groups.add(group) : groups.remove(group);
    }

    boolean busy(int station, boolean on) {
        argument(within(station, 0, 7));
        boolean before = members[station].busy;
        members[station].busy = on;
        return before;
    }

    int send(int station, int priority, int aim, boolean group, int n, int b) {
        argument(within(station, 0, 7) && within(priority, 0, 3));
        argument(within(aim, 0, group ? 255 : 65535));
        argument(within(n, 1, 14) && within(b, 0, 255));
        Member m = members[station];
        state(m.queue.size() != 6);
        Said said = new Said();
        said.priority = priority;
        said.sender = m.address;
        said.aim = aim;
        said.sixth = (group ? 128 : 0) + n - 1;
        said.b = b;
        m.queue.add(said);
        return m.queue.size();
    }

    boolean disturb(int behind) {
        argument(within(behind, 1, 2000));
        int toCome = 0;
        for (int time : told) {
            toCome += time > now() ? 1 : 0;
        }
        state(toCome != 50);
        return told.add(now() + behind);
    }

    int run(int n) {
        argument(within(n, 1, 2000));
        state(now() + n <= 100000);
        for (int i = 0; i < n; i++) {
            next();
        }
        return now();
    }

    int bit(int back) {
        argument(within(back, 0, 63) && now() - back >= 1);
        return at(now() - back);
    }

    int station(int station, int what) {
        argument(within(station, 0, 7) && within(what, 0, 5));
        Member m = members[station];
        int[] all = {m.queue.size(), m.begin > 0 ? 1 : 0, m.ended > 0 ? 1 : 0, m.said, m.lost, m.stopped};
        return all[what];
    }

    int heard(int what) {
        argument(within(what, 0, 4));
        return counts[what];
    }

    int byteAt(int i) {
        argument(latest != null && within(i, 0, latest.bytes.size() - 1));
        return latest.bytes.get(i);
    }

    int answer() {
        return answer;
    }

    private int at(int time) {
        return line.charAt(time - 1) - '0';
    }

    private boolean idleFor(int bits) {
        for (int time = now(); time >= 1 && time > now() - bits; time--) {
            if (at(time) == 0) {
                return false;
            }
        }
        return true;
    }

    private void next() {
        int time = now() + 1;
        if (latest != null && lastComplete == latest && time == latest.end + 14) {
            beginAnswers(time);
        }
        for (Member m : members) {
            if (m.begin == 0 && m.ended == 0 && !m.queue.isEmpty()) {
                Said first = m.queue.peek();
                if (idleFor(first.priority > 1 && first.times == 0 ? 53 : 50)) {
                    m.begin = time;
                    m.text = first.text();
                }
            }
        }
        boolean zero = told.contains(time) || answerZeros.contains(time);
        for (Member m : members) {
            zero |= m.begin != 0 && m.text.charAt(time - m.begin) == '0';
        }
        line.append(zero ? '0' : '1');
        for (Member m : members) {
            if (m.begin != 0) {
                afterBit(m, time, zero);
            }
        }
        hear();
        for (Member m : members) {
            if (m.ended != 0 && m.ended + 28 == time) {
                endWait(m);
            }
        }
    }

    private void beginAnswers(int time) {
        int sixth = latest.bytes.get(5);
        int aim = 256 * latest.bytes.get(3) + latest.bytes.get(4);
        for (Member m : members) {
            boolean meant = sixth >= 128 ? m.groups.contains(aim) : m.address == aim;
            if (meant && m.begin == 0 && m.ended == 0) {
                String text = Checks.bits(!isRight(latest) ? 12 : m.busy ? 192 : 204);
                for (int i = 0; i < 11; i++) {
                    if (text.charAt(i) == '0') {
                        answerZeros.add(time + i);
                    }
                }
            }
        }
    }

    private static void afterBit(Member m, int time, boolean zero) {
        int place = time - m.begin;
        if (zero && m.text.charAt(place) == '1') {
            m.begin = 0;
            m.stopped++;
        } else if (place == m.text.length() - 1) {
            m.begin = 0;
            m.ended = time;
            m.queue.peek().times++;
        }
    }

    private void endWait(Member m) {
        if (latest != null && latest.end == m.ended && answer == 204) {
            m.said++;
            m.queue.remove();
        } else if (m.queue.peek().times == 4) {
            m.lost++;
            m.queue.remove();
        }
        m.ended = 0;
    }

    /** What begins at readFrom or later and is complete now, if there is such a thing. */
    private void hear() {
        while (readFrom <= now() && at(readFrom) == 1) {
            readFrom++;
        }
        Thing thing = read(readFrom);
        if (thing != null) {
            lastComplete = thing;
            readFrom = thing.next;
            judge(thing);
        }
    }

    private Thing read(int begin) {
        Thing thing = new Thing();
        thing.begin = begin;
        for (int start = begin; start + 11 <= now(); start += 13) {
            String character = line.substring(start - 1, start + 10);
            int value = 0;
            for (int i = 8; i >= 1; i--) {
                value = 2 * value + character.charAt(i) - '0';
            }
            thing.bytes.add(value);
            thing.bad |= !character.equals(Checks.bits(value));
            thing.end = start + 10;
            String behind = line.substring(start + 10, Math.min(start + 13, now()));
            if (behind.startsWith("0") || behind.startsWith("10") || behind.equals("111")) {
                int zero = behind.indexOf('0');
                thing.next = thing.end + 1 + (zero < 0 ? 3 : zero);
                return thing;
            }
            if (!behind.equals("110")) {
                return null;
            }
        }
        return null;
    }

    private void judge(Thing thing) {
        if (thing.bytes.size() >= 8 && !thing.bad) {
            latest = thing;
            answer = -1;
            counts[0]++;
            counts[1] += isRight(thing) ? 1 : 0;
        } else if (latest != null && thing.begin == latest.end + 14 && thing.bytes.size() == 1 && !thing.bad) {
            answer = thing.bytes.get(0);
            counts[answer == 204 ? 3 : 4]++;
        } else {
            counts[2]++;
        }
    }

    private static boolean isRight(Thing thing) {
        int check = 255;
        int last = thing.bytes.size() - 1;
        for (int i = 0; i < last; i++) {
            check ^= thing.bytes.get(i);
        }
        int data = thing.bytes.get(5) % 128 + 1;
        return check == thing.bytes.get(last) && last == 6 + data;
    }
}
