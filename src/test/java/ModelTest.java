import java.util.TreeMap;

/** All promises of the bus: the same calls on the program and on a PlainBus answer the same. */
public final class ModelTest {
    private static final int RUNS = 1500;
    private static final int CALLS = 512;

    private interface Answer {
        long give();
    }

    private long seed;
    private final int run;
    private final BusTelegrams bus = new BusTelegrams();
    private final PlainBus plain = new PlainBus();
    private final StringBuilder story = new StringBuilder();
    private int calls = 0;
    private static int wrongRuns = 0;
    private static final TreeMap<String, Integer> seenBy = new TreeMap<>();

    private ModelTest(int run) {
        this.run = run;
        seed = 1000003L * run + 17;
    }

    public static void main(String[] args) {
        for (int run = 1; run <= RUNS; run++) {
            new ModelTest(run).go();
        }
        if (wrongRuns > 0) {
            System.out.println(wrongRuns + " runs are wrong");
            System.exit(1);
        }
        dueToHaveSeen();
        Checks.finish();
    }

    /** Random runs that never come to the interesting places would prove nothing. */
    private static void dueToHaveSeen() {
        String[] all = {"telegrams", "right", "noise", "answers 204", "other answers", "not right",
            "said", "lost", "stopped", "waits", "IllegalArgumentException", "IllegalStateException"};
        for (String one : all) {
            Checks.due("runs saw enough of: " + one, seenBy.getOrDefault(one, 0) >= 50, true);
        }
    }

    /** The same numbers at each run of the test. */
    private int random(int below) {
        seed = seed * 6364136223846793005L + 1442695040888963407L;
        return (int) Math.floorMod(seed >>> 33, (long) below);
    }

    private boolean chance(int percent) {
        return random(100) < percent;
    }

    private void go() {
        boolean same = true;
        while (same && calls < CALLS - 60) {
            same = step() && look();
        }
        if (!same) {
            wrongRuns++;
            System.out.println("run " + run + ":" + story);
        }
        count("telegrams", bus.heard(0));
        count("right", bus.heard(1));
        count("not right", bus.heard(0) - bus.heard(1));
        count("noise", bus.heard(2));
        count("answers 204", bus.heard(3));
        count("other answers", bus.heard(4));
        for (int s = 0; s < 8; s++) {
            count("waits", bus.station(s, 2));
            count("said", bus.station(s, 3));
            count("lost", bus.station(s, 4));
            count("stopped", bus.station(s, 5));
        }
    }

    private static void count(String what, int more) {
        seenBy.merge(what, more, Integer::sum);
    }

    private boolean same(String call, Answer program, Answer model) {
        calls++;
        String got = told(program);
        String want = told(model);
        story.append("\n  ").append(call).append(" -> ").append(got);
        if (!got.equals(want)) {
            story.append(", due is ").append(want);
            return false;
        }
        return true;
    }

    private static String told(Answer answer) {
        try {
            return Long.toString(answer.give());
        } catch (RuntimeException e) {
            count(e.getClass().getSimpleName(), 1);
            return e.getClass().getName();
        }
    }

    private static long number(boolean yes) {
        return yes ? 1 : 0;
    }

    /** Mostly inside the bounds, at times at or behind an edge. */
    private int any(int least, int most) {
        if (chance(97)) {
            return least + random(most - least + 1);
        }
        int[] edges = {least - 1, least, most, most + 1, Integer.MIN_VALUE, Integer.MAX_VALUE};
        return edges[random(edges.length)];
    }

    /** Few different addresses, so that stations meet. */
    private int someAddress() {
        int[] some = {0, 1, 2, 3, 4, 255, 256, 258, 65535};
        return chance(95) ? some[random(some.length)] : any(0, 65535);
    }

    private int someGroup() {
        int[] some = {0, 1, 2, 255};
        return chance(95) ? some[random(some.length)] : any(0, 255);
    }

    private boolean step() {
        int kind = random(100);
        if (kind < 6) {
            return settle();
        }
        if (kind < 30) {
            return sendSome();
        }
        if (kind < 55) {
            return disturbNearTheEnd();
        }
        if (kind < 60) {
            int behind = any(1, chance(80) ? 150 : 2000);
            return disturb(behind);
        }
        if (kind < 64) {
            return sayFromOutside();
        }
        return runSome();
    }

    private boolean settle() {
        int s = any(0, 7);
        boolean on = chance(50);
        if (chance(40)) {
            int group = someGroup();
            return same("listen(" + s + ", " + group + ", " + on + ")",
                () -> number(bus.listen(s, group, on)), () -> number(plain.listen(s, group, on)));
        }
        if (chance(50)) {
            return same("busy(" + s + ", " + on + ")", () -> number(bus.busy(s, on)), () -> number(plain.busy(s, on)));
        }
        int address = someAddress();
        return same("address(" + s + ", " + address + ")",
            () -> bus.address(s, address), () -> plain.address(s, address));
    }

    private boolean sendSome() {
        int s = any(0, chance(50) ? 2 : 7);
        int priority = any(0, 3);
        boolean group = chance(30);
        int aim = group ? someGroup() : someAddress();
        int n = chance(60) ? 1 : any(1, 14);
        int b = any(0, 255);
        String call = "send(" + s + ", " + priority + ", " + aim + ", " + group + ", " + n + ", " + b + ")";
        return same(call, () -> bus.send(s, priority, aim, group, n, b),
            () -> plain.send(s, priority, aim, group, n, b));
    }

    private boolean disturb(int behind) {
        return same("disturb(" + behind + ")", () -> number(bus.disturb(behind)), () -> number(plain.disturb(behind)));
    }

    private boolean runFor(int n) {
        return same("run(" + n + ")", () -> bus.run(n), () -> plain.run(n));
    }

    /** Where a thing more or less, and a bit time sooner or later, makes the difference. */
    private boolean disturbNearTheEnd() {
        boolean fine = true;
        for (int i = random(4); i >= 0 && fine && calls < CALLS - 12; i--) {
            int behind = plain.end() + random(34) - 4 - plain.now();
            if (behind >= 1) {
                fine = disturb(behind);
            }
        }
        // A character of 255 just behind the telegram, or an answer of nobody.
        int behind = plain.end() + (chance(50) ? 3 : 14) - plain.now();
        if (fine && behind >= 1 && chance(40) && calls < CALLS - 12) {
            fine = disturb(behind) && disturb(behind + 9);
        }
        return fine;
    }

    private boolean sayFromOutside() {
        if (calls > CALLS - 120) {
            return runSome();
        }
        int[] aims = {0, 1, 2, 258, 255};
        int n = 1 + random(2);
        int[] data = new int[n];
        int sixth = (chance(50) ? 128 : 0) + (chance(80) ? n - 1 : random(128));
        int[] bytes = Checks.telegram(255 - random(2), 255, aims[random(5)], sixth, data);
        if (chance(20)) {
            bytes[random(bytes.length)] ^= 1 << random(8);
        }
        boolean fine = true;
        for (int i = 0; i < bytes.length && fine; i++) {
            String character = Checks.bits(bytes[i]) + (i + 1 < bytes.length ? "11" : "");
            for (int k = 0; k < 11 && fine; k++) {
                if (character.charAt(k) == '0') {
                    fine = disturb(k + 1);
                }
            }
            fine = fine && runFor(character.length());
        }
        return fine;
    }

    private boolean runSome() {
        int kind = random(100);
        if (kind < 35) {
            return runFor(any(1, 60));
        }
        int toEnd = plain.end() + random(32) - plain.now();
        if (kind < 85 && toEnd >= 1 && toEnd <= 2000) {
            return runFor(toEnd);
        }
        return runFor(kind < 97 ? any(1, 250) : any(1, 2000));
    }

    private boolean look() {
        boolean fine = true;
        for (int i = random(4); i >= 0 && fine && calls < CALLS; i--) {
            fine = lookOnce();
        }
        return fine;
    }

    private boolean lookOnce() {
        int kind = random(10);
        if (kind < 4) {
            int s = any(0, 7);
            int what = any(0, 5);
            return same("station(" + s + ", " + what + ")", () -> bus.station(s, what), () -> plain.station(s, what));
        }
        if (kind < 6) {
            int what = any(0, 4);
            return same("heard(" + what + ")", () -> bus.heard(what), () -> plain.heard(what));
        }
        if (kind < 7) {
            return same("answer()", bus::answer, plain::answer);
        }
        if (kind < 8) {
            int i = any(0, 22);
            return same("byteAt(" + i + ")", () -> bus.byteAt(i), () -> plain.byteAt(i));
        }
        int back = any(0, 63);
        return same("bit(" + back + ")", () -> bus.bit(back), () -> plain.bit(back));
    }
}
