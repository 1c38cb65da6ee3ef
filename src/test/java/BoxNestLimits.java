import java.lang.management.ManagementFactory;
import java.util.Random;

/**
 * What holds for every call, whatever is asked: none throws (an exception ends this test with a failure),
 * each ends soon, and a run's calls make next to nothing, as all of them live in one room.
 */
public final class BoxNestLimits {
    private static final int CALLS = 512;
    /** 7.3 million elements are some 30 million bytes: a run must stay far below. */
    private static final long MOST_BYTES = 200_000;
    private static final long MOST_BYTES_NEW = 12_000;
    private static final long MOST_MILLIS = 60_000;
    private static final int[] ODD = {Integer.MIN_VALUE, Integer.MIN_VALUE + 1, -2000000000, -65536, -33, -32, -31, -2, -1, 0, 1, 2, 3, 5, 6, 7,
        11, 12, 13, 15, 16, 17, 19, 20, 21, 30, 31, 32, 33, 39, 40, 41, 63, 64, 100, 101, 1000, 1001, 20000, 20001, 100000, 100001,
        (1 << 20) - 1, 1 << 20, 1 << 30, Integer.MAX_VALUE - 1, Integer.MAX_VALUE};

    private static int wrong = 0;

    public static void main(String[] args) {
        long begin = System.nanoTime();
        for (int seed = 0; seed < 2000; seed++) {
            oddCalls(seed);
        }
        dear("best", fullNest(), 0);
        dear("best in vain", burdenedNest(), 6);
        dear("cut and piece", fullNest(), 1);
        dear("trucks", fullNest(), 2);
        dear("set", fullNest(), 3);
        dear("wrong and about", fullNest(), 4);
        dear("box and cut", new BoxNest(), 5);
        newObjects();
        long millis = (System.nanoTime() - begin) / 1_000_000;
        if (millis > MOST_MILLIS) {
            wrong++;
            System.out.println("all together took " + millis + " ms");
        }
        System.out.println(wrong == 0 ? "no call throws, all end soon and make little" : wrong + " limits are not kept");
        if (wrong != 0) {
            System.exit(1);
        }
    }

    /** Calls with odd numbers on one object, beyond its last call too. */
    private static void oddCalls(int seed) {
        Random random = new Random(seed);
        BoxNest n = new BoxNest();
        for (int i = 0; i < CALLS + 64; i++) {
            int[] v = new int[8];
            for (int j = 0; j < v.length; j++) {
                v[j] = random.nextInt(4) == 0 ? ODD[random.nextInt(ODD.length)] : random.nextInt(7);
            }
            boolean flag = random.nextBoolean();
            switch (random.nextInt(22)) {
                case 0: n.box(v[0], v[1], v[2], v[3], v[4], v[5], flag, v[6]); break;
                case 1: n.truck(v[0], v[1], v[2]); break;
                case 2: n.share(v[0]); break;
                case 3: n.axles(v[0], v[1], v[2], v[3]); break;
                case 4: n.side(v[0]); break;
                case 5: n.wrong(v[0], v[1], v[2], v[3], flag); break;
                case 6: n.place(v[0], v[1], v[2], v[3], flag); break;
                case 7: n.set(v[0]); break;
                case 8: n.take(v[0]); break;
                case 9: if (flag) n.clear(); break;
                case 10: n.best(v[0]); break;
                case 11: n.about(v[0], v[1]); break;
                case 12: n.at(v[0], v[1], v[2]); break;
                case 13: n.axle(v[0], v[1], v[2]); break;
                case 14: n.over(v[0]); break;
                case 15: n.fit(); break;
                case 16: n.cut(v[0], v[1], v[2]); break;
                case 17: n.piece(v[0], v[1]); break;
                case 18: n.trucks(v[0]); break;
                case 19: n.shown(v[0]); break;
                case 20: n.count(v[0]); break;
                default: n.trucks(random.nextInt(1 << 20)); break;
            }
        }
    }

    /** Fifteen boxes in and five that find no corner at once: long searches. */
    private static BoxNest fullNest() {
        BoxNest n = new BoxNest();
        n.truck(40, 12, 12);
        n.share(10);
        for (int i = 0; i < 15; i++) {
            n.box(2 + i % 3, 1 + i % 4, 1 + i % 5, 10, 20000, 1, true, 7 * i);
        }
        for (int i = 0; i < 5; i++) {
            n.box(3 + i, 5, 4 + i, 1000, 0, i == 0 ? 5 : 0, true, 100 + i);
        }
        for (int i = 0; i < 15; i++) {
            n.place(i, 2 * i + i % 2 * 3, i % 7, 0, false);
            n.set(i);
        }
        return n;
    }

    /**
     * In share 0 boxes may stand at any corner; but box 1 bears nothing and has one on it since a take,
     * which none of the last five mends: each of their orders is sought through in vain.
     */
    private static BoxNest burdenedNest() {
        BoxNest n = new BoxNest();
        n.truck(40, 12, 12);
        n.share(0);
        n.box(2, 1, 1, 1, 20000, 1, true, 0);
        n.box(1, 1, 1, 1, 0, 1, true, 0);
        n.box(2, 1, 1, 1, 20000, 1, true, 0);
        n.box(5, 1, 1, 2, 20000, 1, true, 0);
        n.box(1, 1, 1, 1, 20000, 1, true, 0);
        for (int i = 0; i < 10; i++) {
            n.box(1 + i % 2, 1 + i % 3, 1 + i % 2, 1, 20000, 1, true, 0);
        }
        for (int i = 0; i < 5; i++) {
            n.box(1 + i % 3, 2 + i % 2 * 2, 1, 2, 20000, 1, true, 0);
        }
        n.place(0, 0, 0, 0, false);
        n.place(1, 2, 0, 0, false);
        n.place(2, 3, 0, 0, false);
        n.place(4, 0, 0, 2, false);
        n.place(3, 0, 0, 1, false);
        for (int i = 0; i < 10; i++) {
            for (int t = 0; t < 12 && n.about(5 + i, 8) == 0; t++) {
                n.place(5 + i, 6 + 3 * i, (i + t) % 11, (i * 5 + t) % 10, false);
            }
        }
        n.take(4);
        if (n.count(1) != 14 || n.best(31 << 15) != 0) {
            wrong++;
            System.out.println("fourteen are in, and no other one finds a corner");
        }
        return n;
    }

    private static void dear(String what, BoxNest n, int kind) {
        long before = bytes();
        long begin = System.nanoTime();
        for (int i = 0; i < CALLS; i++) {
            switch (kind) {
                case 0:
                    if (i % 6 == 0) n.best(31 << 15);
                    else n.take(14 + i % 6);
                    break;
                case 1:
                    if (i % 2 == 0) n.cut(16, 16, 16 - i / 2 % 3);
                    else n.piece(i, 1);
                    break;
                case 2: n.trucks((1 << 20) - 1 - i); break;
                case 3:
                    if (i % 2 == 0) n.set(15);
                    else n.take(15);
                    break;
                case 4:
                    if (i % 2 == 0) n.wrong(16, i % 40, 3, i % 12, false);
                    else n.about(i % 20, 13);
                    break;
                case 6: n.best(31 << 15); break;
                default:
                    if (i % 2 == 0) n.box(1 + i % 3, 1, 1, 1, 0, 0, true, 1);
                    else n.cut(16, 16, 16);
                    break;
            }
        }
        long made = bytes() - before;
        if (made > MOST_BYTES) {
            wrong++;
            System.out.println(what + " made " + made + " bytes in " + CALLS + " calls");
        }
        System.out.println(what + ": " + made + " bytes, " + (System.nanoTime() - begin) / 1_000_000 + " ms");
    }

    private static void newObjects() {
        BoxNest[] all = new BoxNest[CALLS];
        long before = bytes();
        for (int i = 0; i < CALLS; i++) {
            all[i] = new BoxNest();
        }
        long made = (bytes() - before) / CALLS;
        if (made > MOST_BYTES_NEW || all[CALLS - 1].count(0) != 0) {
            wrong++;
            System.out.println("a new object takes " + made + " bytes");
        }
        System.out.println("a new object: " + made + " bytes");
    }

    private static long bytes() {
        com.sun.management.ThreadMXBean threads = (com.sun.management.ThreadMXBean) ManagementFactory.getThreadMXBean();
        return threads.getThreadAllocatedBytes(Thread.currentThread().getId());
    }
}
