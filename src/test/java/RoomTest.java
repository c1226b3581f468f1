import com.sun.management.ThreadMXBean;
import java.lang.management.ManagementFactory;
import java.util.NoSuchElementException;
import java.util.Random;

/** All promises: any arguments in any state, 512 calls of one object, the dearest calls, and the room that they take. */
public final class RoomTest extends Checks {
    private static final int CALLS = 512;

    public static void main(String[] args) {
        runAll(RoomTest.class);
    }

    /** The richest mountain, with mules, and the law behind them. */
    private static String mountain(int mules, String law) {
        StringBuilder text = new StringBuilder(richest());
        for (int i = 0; i < mules; i++) {
            text.append(carrier(String.valueOf((char) ('p' + i)), "mule", 60, 1, 1));
        }
        return text + "drink " + law + ";spring 200;fog 30;";
    }

    /** A law as long as the TAPE has room for behind the mules. */
    private static String dearest(int mules) {
        StringBuilder law = new StringBuilder("1");
        while (mountain(mules, law.toString()).length() <= 996) {
            law.append("*1");
        }
        return mountain(mules, law.toString());
    }

    private static int any(Random random) {
        switch (random.nextInt(8)) {
            case 0: return random.nextInt();
            case 1: return LEAST + random.nextInt(3);
            case 2: return MOST - random.nextInt(3);
            case 3: return random.nextInt(200) - 100;
            default: return random.nextInt(9) - 2;
        }
    }

    /** "No call may ever throw by itself .. or fail to end, for any arguments in any state" (LANGUAGE.md, 7). */
    static void promisesAllForAnyArguments() {
        Random random = new Random(5);
        String[] texts = {"", station("a", 0, 0), mountain(3, "thirst"), mountain(6, "left*minute-debt"), carrier("a", "goat", 9, 1, 1), dearest(4)};
        for (int run = 0; run < 280; run++) {
            SkinCarriers x = new SkinCarriers();
            int calls = 0;
            if (run % 7 < texts.length) {
                lay(x, texts[run % 7]);
                x.mountain();
                calls = texts[run % 7].length() / 24 + 2;
            }
            while (calls < CALLS) {
                callAny(x, random, run);
                calls++;
            }
        }
    }

    private static void callAny(SkinCarriers x, Random random, int run) {
        int which = random.nextInt(25);
        int a = any(random);
        int b = any(random);
        int c = any(random);
        int d = any(random);
        boolean isSo = random.nextBoolean();
        try {
            switch (which) {
                case 0: x.feed(random.nextLong(), random.nextLong(), random.nextLong()); break;
                case 1: if (isSo && random.nextInt(9) == 0) { x.mountain(); } break;
                case 2: x.station(a, b); break;
                case 3: x.way(a, b, c); break;
                case 4: x.carrier(a, b); break;
                case 5: x.paths(); break;
                case 6: x.path(a, b); break;
                case 7: x.trip(a, b, c, d); break;
                case 8: x.send(a, b, c); break;
                case 9: x.rest(); break;
                case 10: x.seed(a); break;
                case 11: x.drank(a, b); break;
                case 12: x.best(a, b, c); break;
                case 13: x.plan(a); break;
                case 14: x.relay(a, b); break;
                case 15: x.owe(a, b, c); break;
                case 16: x.owes(a, b); break;
                case 17: x.debt(a); break;
                case 18: x.settled(); break;
                case 19: x.missed(a, b); break;
                case 20: x.odds(a, b, c); break;
                case 21: x.patch(a, isSo); break;
                case 22: x.undo(); break;
                case 23: x.mark(a, isSo); break;
                default: x.count(a); break;
            }
        } catch (NoSuchElementException e) {
            if (which != 4 && which != 17) {
                tell("run " + run + ": the call of number " + which + " threw " + e);
            }
        } catch (RuntimeException e) {
            tell("run " + run + ": the call of number " + which + " threw " + e);
        }
    }

    /** "An object is used for at most 512 calls": PLAN and RELAY are made anew to the last, with the longest law. */
    static void promisesAllFor512Calls() {
        for (int mules = 4; mules <= 6; mules += 2) {
            SkinCarriers x = on(dearest(mules));
            due("paths()", x.paths(), 37);
            int calls = 46;
            int together = x.plan(NONE);
            int relayed = x.relay(60, 0);
            while (calls + 6 <= CALLS) {
                due("patch(0, true)", x.patch(0, true), true);
                x.plan(NONE);
                due("undo()", x.undo(), true);
                due("plan(-1)", x.plan(NONE), together);
                due("relay(60, 0)", x.relay(60, 0), relayed);
                due("count(7)", x.count(7), 0);
                calls += 6;
            }
        }
    }

    /** The room of all calls of a run: an object is small, and a call makes next to nothing. */
    static void promisesAllInOneRoom() {
        ThreadMXBean threads = (ThreadMXBean) ManagementFactory.getThreadMXBean();
        long thread = Thread.currentThread().getId();
        makeAndUse();
        long before = threads.getThreadAllocatedBytes(thread);
        SkinCarriers x = new SkinCarriers();
        long made = threads.getThreadAllocatedBytes(thread) - before;
        if (made > 50000) {
            tell("an object takes " + made + " bytes");
        }
        lay(x, mountain(4, "thirst"));
        before = threads.getThreadAllocatedBytes(thread);
        x.mountain();
        useAll(x);
        long used = threads.getThreadAllocatedBytes(thread) - before;
        if (used > 5000) {
            tell("some 1,000 calls take " + used + " bytes");
        }
    }

    /** So that what is loaded at the first use does not count. */
    private static void makeAndUse() {
        SkinCarriers x = on(mountain(4, "thirst"));
        useAll(x);
    }

    private static void useAll(SkinCarriers x) {
        for (int i = 0; i < 40; i++) {
            int c = i % 4;
            x.feed(0, 0, i);
            x.station(c, 2);
            x.way(c, c + 1, 0);
            x.carrier(c, 6);
            x.path(i, 1);
            x.trip(c, i % 37, i, 0);
            x.send(c, i % 37, 10);
            x.seed(i);
            x.drank(i, 2);
            x.best(c, i, 1);
            x.plan(NONE);
            x.relay(i, 0);
            x.owe(c, (c + 1) % 4, 1 + i);
            x.owes(c, (c + 1) % 4);
            x.debt(c);
            x.settled();
            x.missed(i % 5, 1);
            x.odds(i % 5, c, 1);
            x.patch(c, i % 8 < 4);
            x.mark(c, i % 3 == 0);
            x.count(i % 9);
            if (i % 4 == 3) {
                x.rest();
                x.undo();
            }
        }
    }
}
