/** Promise by promise: ordinary calls, the edges that the document names, and wrong inputs, reckoned by hand. */
public final class BoxNestPromises {
    private static final int NONE = -1;
    private static final int RANGE = -2;
    private static final int FULL = -3;
    private static final int STATE = -4;
    private static final int NO_ABOUT = -9;
    private static final int NO_AXLE = -2000000000;
    private static final int LEAST = Integer.MIN_VALUE;
    private static final int MOST = Integer.MAX_VALUE;

    private static int wrong = 0;
    private static int asked = 0;

    private static void due(int promise, String what, int got, int want) {
        asked++;
        if (got != want) {
            wrong++;
            System.out.println("promise " + promise + ": " + what + " answered " + got + ", due is " + want);
        }
    }

    public static void main(String[] args) {
        newObject();
        boxes();
        trucksSizes();
        shares();
        axlesAndSide();
        wrongInsideAndThrough();
        wrongShare();
        wrongLoad();
        wrongLoadAnywhere();
        setsUnderLoad();
        bestUnderLoad();
        wrongWay();
        wrongRefusals();
        places();
        sets();
        takes();
        clears();
        bests();
        bestOrders();
        abouts();
        loadsByArea();
        ats();
        axleLoads();
        overBits();
        fits();
        cuts();
        pieces();
        pieceOrder();
        trucksByVolume();
        trucksByBig();
        counts();
        System.out.println(asked + " asked: " + (wrong == 0 ? "all answers are as due" : wrong + " answers are not as due"));
        if (wrong != 0) {
            System.exit(1);
        }
    }

    /** A box of drop 1 that bears all, doesn't turn and is worth nothing. */
    private static int plain(BoxNest n, int length, int width, int height, int weight) {
        return n.box(length, width, height, weight, 20000, 1, false, 0);
    }

    private static int dropped(BoxNest n, int length, int width, int height, int drop) {
        return n.box(length, width, height, 1, 20000, drop, false, 0);
    }

    private static int worthy(BoxNest n, int length, int width, int height, boolean turns, int worth) {
        return n.box(length, width, height, 1, 0, 0, turns, worth);
    }

    private static void dueCounts(int promise, BoxNest n, int... wants) {
        for (int what = 0; what < wants.length; what++) {
            due(promise, "count(" + what + ")", n.count(what), wants[what]);
        }
    }

    private static void duePlace(int promise, BoxNest n, int b, int x, int y, int z, int turned) {
        due(promise, "x of " + b, n.about(b, 9), x);
        due(promise, "y of " + b, n.about(b, 10), y);
        due(promise, "z of " + b, n.about(b, 11), z);
        due(promise, "turned of " + b, n.about(b, 12), turned);
    }

    private static void duePiece(int promise, BoxNest n, int i, int... wants) {
        for (int what = 0; what < wants.length; what++) {
            due(promise, "piece(" + i + ", " + what + ")", n.piece(i, what), wants[what]);
        }
    }

    private static void newObject() {
        BoxNest n = new BoxNest();
        dueCounts(1, n, 0, 0, 0, 0, 0, 10, 4, 4, 70, 2, 8, 100000, 100000, 100);
        due(1, "clear", n.clear(), 0);
        due(1, "at", n.at(0, 0, 0), NONE);
        due(1, "fit", n.fit(), NONE);
        due(1, "over(0)", n.over(0), 0);
        due(1, "axle above", n.axle(1, 0, 0), 0);
        due(1, "axle below", n.axle(1, 0, 1), 1);
        due(1, "shown", n.shown(0), NONE);
        due(1, "piece", n.piece(0, 0), NONE);
        due(1, "about", n.about(0, 0), NO_ABOUT);
        due(1, "wrong", n.wrong(0, 0, 0, 0, false), RANGE);
        due(1, "set", n.set(0), RANGE);
        due(1, "take", n.take(0), RANGE);
        due(1, "best", n.best(1), RANGE);
        due(1, "trucks", n.trucks(1), RANGE);
        due(1, "cut of nothing", n.cut(16, 16, 16), 0);
        due(1, "piece of nothing", n.piece(0, 0), NONE);
        BoxNest other = new BoxNest();
        due(1, "another one's box", other.box(1, 1, 1, 1, 0, 0, false, 0), 0);
        due(1, "boxes of the first", n.count(0), 0);
    }

    private static void boxes() {
        BoxNest n = new BoxNest();
        int[][] edges = {{1, 12}, {1, 12}, {1, 12}, {1, 1000}, {0, 20000}, {0, 5}, {0, 1000}};
        int told = 0;
        for (int i = 0; i < edges.length; i++) {
            int[] bad = {edges[i][0] - 1, edges[i][1] + 1, LEAST, MOST};
            for (int v : bad) {
                due(2, "number " + i + " of " + v, boxWith(n, i, v), RANGE);
            }
            for (int v : edges[i]) {
                due(2, "number " + i + " of " + v, boxWith(n, i, v), told);
                told++;
            }
        }
        due(2, "boxes", n.count(0), 14);
        for (; told < 20; told++) {
            due(2, "box", boxWith(n, 0, 2), told);
        }
        due(2, "box beyond the last", boxWith(n, 0, 2), FULL);
        due(2, "a wrong box beyond the last", boxWith(n, 0, 13), RANGE);
        due(2, "boxes", n.count(0), 20);
        n.set(19);
        due(2, "full with one placed", boxWith(n, 0, 2), FULL);
    }

    private static int boxWith(BoxNest n, int i, int v) {
        int[] told = {2, 2, 2, 5, 5, 1, 5};
        told[i] = v;
        return n.box(told[0], told[1], told[2], told[3], told[4], told[5], true, told[6]);
    }

    private static void trucksSizes() {
        BoxNest n = new BoxNest();
        due(3, "the least", n.truck(1, 1, 1), 1);
        due(3, "the greatest", n.truck(40, 12, 12), 1);
        int[][] bad = {{0, 4, 4}, {41, 4, 4}, {4, 0, 4}, {4, 13, 4}, {4, 4, 0}, {4, 4, 13}, {LEAST, 4, 4}, {4, MOST, 4}, {4, 4, LEAST}};
        for (int[] b : bad) {
            due(3, "truck(" + b[0] + ", " + b[1] + ", " + b[2] + ")", n.truck(b[0], b[1], b[2]), RANGE);
        }
        due(3, "length", n.count(5), 40);
        due(3, "width", n.count(6), 12);
        due(3, "height", n.count(7), 12);
        plain(n, 2, 2, 2, 1);
        due(3, "with a box not placed", n.truck(9, 5, 6), 1);
        n.set(0);
        due(3, "with one placed", n.truck(8, 8, 8), STATE);
        due(3, "wrong sizes with one placed", n.truck(0, 8, 8), RANGE);
        due(3, "length", n.count(5), 9);
        n.take(0);
        due(3, "taken out again", n.truck(8, 8, 8), 1);
    }

    private static void shares() {
        BoxNest n = new BoxNest();
        due(4, "share", n.share(0), 70);
        due(4, "share", n.share(100), 0);
        due(4, "share", n.share(-1), RANGE);
        due(4, "share", n.share(101), RANGE);
        due(4, "share", n.share(LEAST), RANGE);
        due(4, "share", n.share(33), 100);
        due(4, "count", n.count(8), 33);
        plain(n, 2, 2, 2, 1);
        n.set(0);
        due(4, "with one placed", n.share(50), STATE);
        due(4, "wrong with one placed", n.share(101), RANGE);
        due(4, "count", n.count(8), 33);
        n.clear();
        due(4, "share", n.share(50), 33);
    }

    private static void axlesAndSide() {
        BoxNest n = new BoxNest();
        due(5, "the least", n.axles(0, 1, 0, 0), 1);
        dueCounts(5, n, 0, 0, 0, 0, 0, 10, 4, 4, 70, 0, 1, 0, 0, 100);
        due(5, "the greatest", n.axles(39, 40, 100000, 99999), 1);
        int[][] bad = {{-1, 5, 1, 1}, {5, 41, 1, 1}, {5, 5, 1, 1}, {6, 5, 1, 1}, {1, 2, -1, 1}, {1, 2, 100001, 1},
            {1, 2, 1, -1}, {1, 2, 1, 100001}, {41, 42, 1, 1}, {LEAST, MOST, 1, 1}, {1, 2, MOST, 1}, {1, 2, 1, LEAST}};
        for (int[] b : bad) {
            due(5, "axles(" + b[0] + ", " + b[1] + ", " + b[2] + ", " + b[3] + ")", n.axles(b[0], b[1], b[2], b[3]), RANGE);
        }
        dueCounts(5, n, 0, 0, 0, 0, 0, 10, 4, 4, 70, 39, 40, 100000, 99999, 100);
        due(6, "side", n.side(0), 100);
        due(6, "side", n.side(-1), RANGE);
        due(6, "side", n.side(101), RANGE);
        due(6, "side", n.side(MOST), RANGE);
        due(6, "side", n.side(25), 0);
        due(6, "count", n.count(13), 25);
        plain(n, 2, 2, 2, 1);
        n.set(0);
        due(5, "with one placed", n.axles(2, 8, 5, 5), 1);
        due(6, "with one placed", n.side(26), 25);
    }

    private static void wrongInsideAndThrough() {
        BoxNest n = new BoxNest();
        plain(n, 3, 2, 2, 1);
        n.box(3, 2, 2, 1, 20000, 1, true, 0);
        due(7, "just inside", n.wrong(0, 7, 2, 0, false), 0);
        due(7, "too far", n.wrong(0, 8, 2, 0, false), 1);
        due(7, "too far aside", n.wrong(0, 7, 3, 0, false), 1);
        due(7, "too high", n.wrong(0, 0, 0, 3, false), 1);
        due(7, "far out", n.wrong(0, 40, 40, 40, false), 1);
        due(7, "turned just inside", n.wrong(1, 8, 1, 0, true), 0);
        due(7, "turned too far aside", n.wrong(1, 8, 2, 0, true), 1);
        n.place(0, 7, 0, 0, false);
        due(7, "through", n.wrong(1, 5, 1, 1, false), 2);
        due(7, "in the same place", n.wrong(1, 7, 0, 0, false), 2);
        due(7, "through and out, and nothing else asked", n.wrong(1, 8, 1, 1, false), 3);
        due(7, "at its end and out", n.wrong(1, 10, 0, 0, false), 1);
        due(7, "touching", n.wrong(1, 4, 0, 0, false), 0);
        due(7, "touching aside", n.wrong(1, 7, 2, 0, false), 0);
        due(7, "touching above", n.wrong(1, 7, 0, 2, false), 0);
        due(7, "above and in the air", n.wrong(1, 0, 0, 1, false), 4);
    }

    private static void wrongShare() {
        BoxNest n = new BoxNest();
        plain(n, 5, 2, 1, 1);
        plain(n, 7, 1, 1, 1);
        plain(n, 1, 1, 1, 1);
        plain(n, 3, 1, 1, 1);
        n.place(1, 0, 0, 0, false);
        // of its ten cells five lie on box 1, and with box 3 behind it seven
        due(7, "5 of 10 at 70", n.wrong(0, 0, 0, 1, false), 4);
        n.place(3, 0, 1, 0, false);
        due(7, "8 of 10 at 70", n.wrong(0, 0, 0, 1, false), 0);
        due(7, "7 of 10 at 70", n.wrong(0, 1, 0, 1, false), 0);
        due(7, "6 of 10 at 70", n.wrong(0, 2, 0, 1, false), 4);
        due(7, "not on its level", n.wrong(0, 0, 0, 2, false), 4);
        due(7, "the floor holds it all", n.wrong(0, 0, 2, 0, false), 0);
        n.clear();
        n.share(71);
        n.place(1, 0, 0, 0, false);
        n.place(3, 0, 1, 0, false);
        due(7, "7 of 10 at 71", n.wrong(0, 1, 0, 1, false), 4);
        n.clear();
        n.share(100);
        n.place(1, 0, 0, 0, false);
        due(7, "all at 100", n.wrong(2, 6, 0, 1, false), 0);
        due(7, "none at 100", n.wrong(2, 7, 0, 1, false), 4);
        n.clear();
        n.share(0);
        due(7, "in the air at 0", n.wrong(0, 3, 1, 3, false), 0);
        n.clear();
        n.share(1);
        due(7, "in the air at 1", n.wrong(0, 3, 1, 3, false), 4);
    }

    private static void wrongLoad() {
        BoxNest n = new BoxNest();
        n.box(2, 2, 1, 9, 5, 1, false, 0);
        n.box(2, 2, 1, 3, 2, 1, false, 0);
        plain(n, 2, 2, 1, 5);
        plain(n, 2, 2, 1, 6);
        plain(n, 2, 2, 1, 2);
        plain(n, 2, 2, 1, 3);
        n.place(0, 0, 0, 0, false);
        due(7, "just what it bears", n.wrong(2, 0, 0, 1, false), 0);
        due(7, "one more than it bears", n.wrong(3, 0, 0, 1, false), 8);
        due(7, "too much, but not held: 4 alone", n.wrong(3, 1, 0, 1, false), 4);
        n.place(1, 0, 0, 1, false);
        due(7, "2 on the upper, 5 on the lower", n.wrong(4, 0, 0, 2, false), 0);
        due(7, "3 on the upper, 6 on the lower", n.wrong(5, 0, 0, 2, false), 8);

        // a box put below one that hangs over gets its share
        BoxNest m = new BoxNest();
        m.share(50);
        plain(m, 2, 1, 1, 1);
        plain(m, 4, 1, 1, 9);
        m.box(2, 1, 1, 1, 4, 1, false, 0);
        m.box(2, 1, 1, 1, 3, 1, false, 0);
        m.place(0, 0, 0, 0, false);
        due(7, "half held at 50", m.place(1, 0, 0, 1, false), 1);
        due(7, "load", m.about(0, 13), 9);
        due(7, "the half goes to it: 4 of 9", m.wrong(2, 2, 0, 0, false), 0);
        due(7, "it bears only 3", m.wrong(3, 2, 0, 0, false), 8);
        due(7, "beside what hangs", m.wrong(3, 4, 0, 0, false), 0);
        m.place(2, 2, 0, 0, false);
        due(7, "its load", m.about(2, 13), 4);
        due(7, "the lowest number gets what is left", m.about(0, 13), 5);
        due(7, "it stands on two now", m.about(1, 14), 2);
    }

    /** With a rest of two for three, less above can be more for the second one: then some box has too much on it. */
    private static void wrongLoadAnywhere() {
        BoxNest n = new BoxNest();
        n.share(0);
        plain(n, 2, 1, 1, 1);
        n.box(1, 1, 1, 1, 0, 1, false, 0);
        plain(n, 2, 1, 1, 1);
        plain(n, 5, 1, 1, 2);
        plain(n, 1, 1, 1, 1);
        plain(n, 1, 1, 1, 1);
        n.place(0, 0, 0, 0, false);
        n.place(1, 2, 0, 0, false);
        n.place(2, 3, 0, 0, false);
        due(7, "2 by 2, 1, 2: the second would get one", n.wrong(3, 0, 0, 1, false), 8);
        due(8, "in the air at share 0", n.place(4, 0, 0, 2, false), 1);
        due(8, "3 by 2, 1, 2: the second gets none", n.place(3, 0, 0, 1, false), 1);
        due(13, "load", n.about(0, 13), 2);
        due(13, "load", n.about(1, 13), 0);
        due(13, "load", n.about(2, 13), 1);
        due(7, "far away all is well", n.wrong(5, 9, 3, 0, false), 0);
        due(10, "take the upper one", n.take(4), 1);
        due(13, "load", n.about(0, 13), 1);
        due(13, "load", n.about(1, 13), 1);
        due(13, "load", n.about(2, 13), 0);
        due(7, "far away, but some box bears too much", n.wrong(5, 9, 3, 0, false), 8);
        due(9, "so it is set where that is mended: above", n.set(5), 1);
        duePlace(9, n, 5, 0, 0, 2, 0);
    }

    /** Boxes 0, 1, 2 hold box 3 by 2, 1, 2; box 1 bears nothing, and the take of box 4 has left one on it. */
    private static BoxNest burdened() {
        BoxNest n = new BoxNest();
        n.share(0);
        plain(n, 2, 1, 1, 1);
        n.box(1, 1, 1, 1, 0, 1, false, 0);
        plain(n, 2, 1, 1, 1);
        plain(n, 5, 1, 1, 2);
        plain(n, 1, 1, 1, 1);
        n.place(0, 0, 0, 0, false);
        n.place(1, 2, 0, 0, false);
        n.place(2, 3, 0, 0, false);
        n.place(4, 0, 0, 2, false);
        n.place(3, 0, 0, 1, false);
        n.take(4);
        due(13, "more than it bears", n.about(1, 13), 1);
        return n;
    }

    /** Where a box changes no other's load, a load that is too great already stays so; where it does, it may mend or spoil. */
    private static void setsUnderLoad() {
        BoxNest n = burdened();
        plain(n, 1, 1, 1, 2);
        due(7, "free floor, but one bears too much", n.wrong(5, 9, 3, 0, false), 8);
        due(9, "4 by 2, 1, 2 leaves one for the second: no corner at all", n.set(5), NONE);
        due(9, "it isn't placed", n.about(5, 8), 0);
        due(9, "1 more above mends", n.set(4), 1);
        due(9, "the floor is free then", n.set(5), 1);
        duePlace(9, n, 5, 0, 1, 0, 0);

        // Box 0 under the end of box 4 takes the rest of box 2, as its number is lower.
        BoxNest m = new BoxNest();
        m.share(0);
        plain(m, 1, 1, 1, 1);
        plain(m, 2, 1, 1, 1);
        m.box(1, 1, 1, 1, 0, 1, false, 0);
        plain(m, 2, 1, 1, 1);
        plain(m, 6, 1, 1, 2);
        plain(m, 1, 1, 1, 1);
        m.place(1, 0, 0, 0, false);
        m.place(2, 2, 0, 0, false);
        m.place(3, 3, 0, 0, false);
        m.place(5, 0, 0, 2, false);
        m.place(4, 0, 0, 1, false);
        m.take(5);
        due(13, "more than it bears", m.about(2, 13), 1);
        due(9, "set below mends", m.set(0), 1);
        duePlace(9, m, 0, 5, 0, 0, 0);
        due(13, "mended", m.about(2, 13), 0);

        // Box 2 bears nothing: it may not go where the end of box 1 would come to stand on it.
        BoxNest k = new BoxNest();
        k.share(50);
        k.truck(5, 2, 2);
        plain(k, 2, 1, 1, 1);
        plain(k, 4, 1, 1, 9);
        k.box(2, 1, 1, 1, 0, 1, false, 0);
        plain(k, 5, 1, 1, 1);
        k.place(0, 0, 0, 0, false);
        k.place(1, 0, 0, 1, false);
        k.place(3, 0, 1, 0, false);
        due(7, "the floor under that end", k.wrong(2, 2, 0, 0, false), 8);
        due(9, "so it is set on box 3", k.set(2), 1);
        duePlace(9, k, 2, 0, 1, 1, 0);
    }

    private static void bestUnderLoad() {
        BoxNest n = burdened();
        plain(n, 1, 1, 1, 2);
        plain(n, 1, 1, 1, 1);
        plain(n, 1, 1, 1, 2);
        due(12, "none of these mends", n.best(32 + 128), 0);
        due(12, "6 ahead of 5 and 7 mends", n.best(32 + 64 + 128), 3);
        duePlace(12, n, 6, 0, 0, 2, 0);
        duePlace(12, n, 5, 0, 1, 0, 0);
        duePlace(12, n, 7, 0, 2, 0, 0);
        due(12, "what was too much is mended", n.about(1, 13), 0);
    }

    private static void wrongWay() {
        BoxNest n = new BoxNest();
        n.share(0);
        dropped(n, 2, 2, 2, 2);
        dropped(n, 2, 2, 2, 1);
        dropped(n, 2, 2, 2, 2);
        dropped(n, 2, 2, 2, 5);
        n.place(0, 4, 1, 1, false);
        due(7, "the sooner one in front", n.wrong(1, 6, 1, 1, false), 0);
        due(7, "the sooner one far in front", n.wrong(1, 8, 0, 0, false), 0);
        due(7, "the sooner one behind", n.wrong(1, 2, 1, 1, false), 16);
        due(7, "the sooner one far behind, a corner in common", n.wrong(1, 0, 0, 0, false), 16);
        due(7, "alike behind", n.wrong(2, 2, 1, 1, false), 0);
        due(7, "alike in front", n.wrong(2, 6, 1, 1, false), 0);
        due(7, "the later one behind", n.wrong(3, 2, 1, 1, false), 0);
        due(7, "the later one in front", n.wrong(3, 6, 1, 1, false), 16);
        n.clear();
        n.truck(10, 6, 8);
        n.place(0, 4, 2, 3, false);
        due(7, "the later one far in front", n.wrong(3, 8, 1, 2, false), 16);
        due(7, "in front, but beside it", n.wrong(3, 8, 0, 3, false), 0);
        due(7, "in front, but higher", n.wrong(3, 8, 2, 5, false), 0);
        due(7, "in front, but lower", n.wrong(3, 8, 2, 1, false), 0);
        due(7, "the later one above", n.wrong(3, 3, 1, 5, false), 16);
        due(7, "the later one far above", n.wrong(3, 5, 3, 6, false), 16);
        due(7, "above, but beside it", n.wrong(3, 2, 2, 5, false), 0);
        due(7, "the later one below", n.wrong(3, 4, 2, 0, false), 0);
        due(7, "the sooner one below", n.wrong(1, 5, 3, 0, false), 16);
        due(7, "the sooner one above", n.wrong(1, 4, 2, 5, false), 0);
        due(7, "beside", n.wrong(1, 4, 4, 3, false), 0);
        n.clear();
        n.share(50);
        n.place(0, 0, 0, 0, false);
        due(7, "in the way and not held", n.wrong(3, 1, 1, 2, false), 20);
    }

    private static void wrongRefusals() {
        BoxNest n = new BoxNest();
        plain(n, 2, 2, 2, 1);
        n.box(2, 2, 2, 1, 0, 0, true, 0);
        int[][] bad = {{-1, 0, 0, 0}, {2, 0, 0, 0}, {0, -1, 0, 0}, {0, 41, 0, 0}, {0, 0, -1, 0}, {0, 0, 41, 0}, {0, 0, 0, -1},
            {0, 0, 0, 41}, {LEAST, 0, 0, 0}, {MOST, 0, 0, 0}, {0, LEAST, 0, 0}, {0, 0, MOST, 0}, {0, 0, 0, MOST}, {20, 0, 0, 0}, {32, 0, 0, 0}};
        for (int placed = 0; placed < 2; placed++) {
            for (int[] b : bad) {
                String at = "(" + b[0] + ", " + b[1] + ", " + b[2] + ", " + b[3] + ")";
                due(7, "wrong" + at, n.wrong(b[0], b[1], b[2], b[3], false), RANGE);
                due(8, "place" + at, n.place(b[0], b[1], b[2], b[3], false), RANGE);
            }
            due(7, "turned", n.wrong(0, 0, 0, 0, true), RANGE);
            due(8, "turned", n.place(0, 0, 0, 0, true), RANGE);
            n.place(0, 0, 0, 0, false);
        }
        due(7, "placed", n.wrong(0, 5, 0, 0, false), STATE);
        due(8, "placed", n.place(0, 5, 0, 0, false), STATE);
        due(7, "a square one may be turned", n.wrong(1, 5, 0, 0, true), 0);
    }

    private static void places() {
        BoxNest n = new BoxNest();
        n.box(3, 2, 1, 4, 10, 1, true, 0);
        plain(n, 2, 2, 1, 4);
        due(8, "wrong place", n.place(0, 8, 0, 0, false), 0);
        due(8, "not placed by that", n.about(0, 8), 0);
        due(8, "not placed by that", n.about(0, 9), NONE);
        due(8, "turned it fits", n.place(0, 8, 0, 0, true), 1);
        duePlace(8, n, 0, 8, 0, 0, 1);
        due(8, "end", n.count(3), 10);
        due(8, "through", n.place(1, 7, 1, 0, false), 0);
        due(8, "on it", n.place(1, 8, 1, 1, false), 1);
        due(8, "load", n.about(0, 13), 4);
        due(7, "asking moves nothing", n.wrong(1, 0, 0, 0, false), STATE);
        duePlace(8, n, 1, 8, 1, 1, 0);
    }

    private static void sets() {
        BoxNest n = new BoxNest();
        due(9, "set", n.set(0), RANGE);
        n.truck(6, 4, 2);
        plain(n, 2, 2, 1, 1);
        plain(n, 2, 2, 1, 1);
        plain(n, 4, 4, 1, 1);
        plain(n, 2, 2, 1, 1);
        n.box(1, 3, 1, 1, 0, 1, true, 0);
        n.box(2, 2, 1, 1, 0, 1, true, 0);
        plain(n, 7, 1, 1, 1);
        n.box(3, 4, 1, 1, 0, 1, true, 0);
        due(9, "set(-1)", n.set(-1), RANGE);
        due(9, "set(8)", n.set(8), RANGE);
        due(9, "set(least)", n.set(LEAST), RANGE);
        due(9, "first", n.set(0), 1);
        duePlace(9, n, 0, 0, 0, 0, 0);
        due(9, "again", n.set(0), STATE);
        due(9, "aside ahead of farther", n.set(1), 1);
        duePlace(9, n, 1, 0, 2, 0, 0);
        due(9, "farther ahead of higher", n.set(2), 1);
        duePlace(9, n, 2, 2, 0, 0, 0);
        due(9, "higher", n.set(3), 1);
        duePlace(9, n, 3, 0, 0, 1, 0);
        // at 0, 2, 1 it is too wide as it is; turned there it comes ahead of 2, 0, 1 as it is
        due(9, "the first corner, even turned", n.set(4), 1);
        duePlace(9, n, 4, 0, 2, 1, 1);
        due(9, "a square is not turned", n.set(5), 1);
        duePlace(9, n, 5, 2, 0, 1, 0);
        due(9, "too long", n.set(6), NONE);
        due(9, "not placed by that", n.about(6, 8), 0);
        due(9, "no room either way", n.set(7), NONE);

        BoxNest m = new BoxNest();
        m.truck(4, 4, 1);
        m.box(1, 4, 1, 1, 0, 1, true, 0);
        m.box(1, 3, 1, 1, 0, 1, true, 0);
        m.box(4, 1, 1, 1, 0, 1, true, 0);
        m.box(4, 1, 1, 1, 0, 1, false, 0);
        due(9, "not turned first", m.set(0), 1);
        duePlace(9, m, 0, 0, 0, 0, 0);
        due(9, "next", m.set(1), 1);
        duePlace(9, m, 1, 1, 0, 0, 0);
        due(9, "it has to turn", m.set(2), 1);
        duePlace(9, m, 2, 2, 0, 0, 1);
        due(9, "it may not", m.set(3), NONE);

        // a row of all twenty, to the end of the longest truck
        BoxNest j = new BoxNest();
        j.truck(40, 1, 1);
        for (int i = 0; i < 20; i++) {
            plain(j, 2, 1, 1, 1);
        }
        for (int i = 0; i < 20; i++) {
            due(9, "one of twenty", j.set(i), 1);
            duePlace(9, j, i, 2 * i, 0, 0, 0);
        }
        due(9, "all in", j.count(4), 40);

        // a place with nothing wrong is no corner, if no end lies there
        BoxNest k = new BoxNest();
        k.truck(4, 1, 2);
        k.share(0);
        k.box(1, 1, 1, 1, 0, 1, false, 0);
        k.box(1, 1, 1, 1, 0, 0, false, 0);
        due(9, "in the middle", k.place(0, 2, 0, 0, false), 1);
        due(9, "right beside it", k.wrong(1, 1, 0, 1, false), 0);
        due(9, "at 0 it is in the way; at its end it is not", k.set(1), 1);
        duePlace(9, k, 1, 3, 0, 0, 0);
        k.clear();
        k.truck(3, 1, 2);
        k.place(0, 2, 0, 0, false);
        due(9, "above 0 ahead of above it", k.set(1), 1);
        duePlace(9, k, 1, 0, 0, 1, 0);
    }

    private static void takes() {
        BoxNest n = new BoxNest();
        n.share(50);
        plain(n, 2, 2, 1, 1);
        plain(n, 2, 2, 1, 1);
        plain(n, 2, 2, 1, 1);
        due(10, "take(-1)", n.take(-1), RANGE);
        due(10, "take(3)", n.take(3), RANGE);
        due(10, "take(most)", n.take(MOST), RANGE);
        due(10, "take(31)", n.take(31), RANGE);
        due(10, "not placed", n.take(0), STATE);
        n.place(0, 0, 0, 0, false);
        n.place(1, 2, 0, 0, false);
        n.place(2, 1, 0, 1, false);
        due(10, "one stands on it", n.take(0), 0);
        due(10, "it stands there still", n.about(0, 8), 1);
        due(10, "with a part", n.take(1), 0);
        due(10, "the upper one", n.take(2), 1);
        due(10, "again", n.take(2), STATE);
        due(10, "its place is gone", n.about(2, 9), NONE);
        due(10, "its cells are free", n.at(1, 0, 1), NONE);
        due(10, "now the lower one", n.take(0), 1);
        due(10, "placed", n.count(1), 1);

        // above with a gap is not standing on it
        BoxNest m = new BoxNest();
        m.share(0);
        plain(m, 2, 2, 1, 1);
        plain(m, 2, 2, 1, 1);
        m.place(0, 0, 0, 0, false);
        m.place(1, 0, 0, 2, false);
        due(10, "nothing stands on it", m.take(0), 1);
    }

    private static void clears() {
        BoxNest n = new BoxNest();
        plain(n, 2, 2, 1, 1);
        plain(n, 2, 2, 1, 1);
        plain(n, 2, 2, 1, 1);
        n.place(0, 0, 0, 0, false);
        n.place(1, 0, 0, 1, false);
        due(11, "clear", n.clear(), 2);
        due(11, "clear", n.clear(), 0);
        due(11, "boxes", n.count(0), 3);
        due(11, "placed", n.count(1), 0);
        due(11, "load", n.about(0, 13), 0);
        due(11, "free", n.at(0, 0, 0), NONE);
    }

    private static void bests() {
        BoxNest n = new BoxNest();
        for (int i = 0; i < 7; i++) {
            plain(n, 2, 2, 1, 1);
        }
        plain(n, 11, 1, 1, 1);
        due(12, "no box", n.best(0), RANGE);
        due(12, "below 0", n.best(-1), RANGE);
        due(12, "least", n.best(LEAST), RANGE);
        due(12, "no such box", n.best(256), RANGE);
        due(12, "no such box beside others", n.best(257), RANGE);
        due(12, "most", n.best(MOST), RANGE);
        due(12, "six", n.best(63), FULL);
        due(12, "none of it finds a corner", n.best(128), 0);
        due(12, "one", n.best(1), 1);
        due(12, "one is placed", n.best(1), STATE);
        due(12, "one of six is placed", n.best(63), STATE);
        due(12, "one of six is placed, one is not there", n.best(63 + 256), RANGE);
        due(12, "five", n.best(62), 5);
        due(12, "placed", n.count(1), 6);
        due(12, "end", n.count(3), 6);
        duePlace(12, n, 1, 0, 2, 0, 0);
        duePlace(12, n, 2, 2, 0, 0, 0);
        duePlace(12, n, 5, 4, 2, 0, 0);
    }

    private static void bestOrders() {
        // 0, 1, 2 and 0, 2, 1 and 1, 0, 2 leave one out; 1, 2, 0 is the least row that places all three
        BoxNest n = new BoxNest();
        n.truck(3, 3, 1);
        plain(n, 1, 1, 1, 1);
        plain(n, 2, 2, 1, 1);
        plain(n, 3, 1, 1, 1);
        due(12, "all three", n.best(7), 3);
        duePlace(12, n, 0, 2, 0, 0, 0);
        duePlace(12, n, 1, 0, 0, 0, 0);
        duePlace(12, n, 2, 0, 2, 0, 0);

        // In a longer truck all orders place all; 0, 1, 2 ends at 4 and 0, 2, 1 at 5 and 1, 0, 2 at 4, but 1, 2, 0 at 3.
        BoxNest m = new BoxNest();
        m.truck(6, 3, 1);
        plain(m, 1, 1, 1, 1);
        plain(m, 2, 2, 1, 1);
        plain(m, 3, 1, 1, 1);
        due(12, "all", m.best(7), 3);
        due(12, "end", m.count(3), 3);
        duePlace(12, m, 0, 2, 0, 0, 0);
        duePlace(12, m, 1, 0, 0, 0, 0);
        duePlace(12, m, 2, 0, 2, 0, 0);

        // Most placed goes ahead of least reach: 0 alone would end at 1, with 1 it ends at 6.
        BoxNest k = new BoxNest();
        k.truck(6, 1, 1);
        plain(k, 1, 1, 1, 1);
        plain(k, 5, 1, 1, 1);
        plain(k, 6, 1, 1, 1);
        due(12, "two of three", k.best(7), 2);
        duePlace(12, k, 0, 0, 0, 0, 0);
        duePlace(12, k, 1, 1, 0, 0, 0);
        due(12, "left out", k.about(2, 8), 0);

        // Of two that don't go together the one that ends sooner; of alike ones the lower number.
        BoxNest j = new BoxNest();
        j.truck(6, 1, 1);
        plain(j, 5, 1, 1, 1);
        plain(j, 4, 1, 1, 1);
        plain(j, 4, 1, 1, 1);
        due(12, "one of three", j.best(7), 1);
        due(12, "0", j.about(0, 8), 0);
        due(12, "1", j.about(1, 8), 1);
        due(12, "2", j.about(2, 8), 0);
    }

    private static void abouts() {
        BoxNest n = new BoxNest();
        n.box(3, 2, 1, 7, 30, 4, true, 12);
        n.box(1, 2, 3, 8, 0, 0, false, 0);
        int[] told = {3, 2, 1, 7, 30, 4, 1, 12, 0, NONE, NONE, NONE, 0, 0, 0};
        int[] other = {1, 2, 3, 8, 0, 0, 0, 0, 0, NONE, NONE, NONE, 0, 0, 0};
        for (int what = 0; what < 15; what++) {
            due(13, "about(0, " + what + ")", n.about(0, what), told[what]);
            due(13, "about(1, " + what + ")", n.about(1, what), other[what]);
        }
        n.wrong(0, 4, 1, 0, true);
        due(13, "asked, not placed", n.about(0, 12), 0);
        due(13, "asked, not placed", n.about(0, 9), NONE);
        n.place(0, 4, 1, 0, true);
        n.place(1, 5, 2, 1, false);
        int[] placed = {3, 2, 1, 7, 30, 4, 1, 12, 1, 4, 1, 0, 1, 8, 0};
        int[] above = {1, 2, 3, 8, 0, 0, 0, 0, 1, 5, 2, 1, 0, 0, 1};
        for (int what = 0; what < 15; what++) {
            due(13, "placed: about(0, " + what + ")", n.about(0, what), placed[what]);
            due(13, "placed: about(1, " + what + ")", n.about(1, what), above[what]);
        }
        int[][] bad = {{-1, 0}, {2, 0}, {0, -1}, {0, 15}, {LEAST, 0}, {MOST, 0}, {0, LEAST}, {0, MOST}, {2, 9}, {20, 3}};
        for (int[] b : bad) {
            due(13, "about(" + b[0] + ", " + b[1] + ")", n.about(b[0], b[1]), NO_ABOUT);
        }
    }

    private static void loadsByArea() {
        // 11 on areas 3, 2, 1: whole parts 5, 3, 1, and of the rest of 2 one each to the two lowest
        BoxNest n = new BoxNest();
        plain(n, 1, 1, 1, 5);
        plain(n, 2, 1, 1, 5);
        plain(n, 3, 1, 1, 5);
        plain(n, 6, 1, 1, 11);
        n.place(2, 0, 0, 0, false);
        n.place(1, 3, 0, 0, false);
        n.place(0, 5, 0, 0, false);
        n.place(3, 0, 0, 1, false);
        due(13, "load", n.about(0, 13), 2);
        due(13, "load", n.about(1, 13), 4);
        due(13, "load", n.about(2, 13), 5);
        due(13, "stands on", n.about(3, 14), 3);
        due(13, "its own load", n.about(3, 13), 0);

        // two levels: the whole sum goes on down, weights and loads
        BoxNest m = new BoxNest();
        plain(m, 2, 2, 1, 100);
        plain(m, 2, 2, 1, 10);
        plain(m, 2, 2, 1, 7);
        plain(m, 4, 2, 1, 3);
        m.place(0, 0, 0, 0, false);
        m.place(1, 2, 0, 0, false);
        m.place(3, 0, 0, 1, false);
        m.place(2, 0, 0, 2, false);
        due(13, "load", m.about(3, 13), 7);
        due(13, "load", m.about(0, 13), 5);
        due(13, "load", m.about(1, 13), 5);
        due(13, "load", m.about(2, 13), 0);
        due(13, "on the floor", m.about(0, 14), 0);
        m.take(2);
        due(13, "load after taking", m.about(0, 13), 2);
        due(13, "load after taking", m.about(1, 13), 1);
        m.wrong(2, 0, 0, 2, false);
        due(13, "load after asking", m.about(0, 13), 2);
    }

    private static void ats() {
        BoxNest n = new BoxNest();
        n.box(3, 2, 2, 1, 5, 1, true, 0);
        n.place(0, 4, 1, 0, true);
        int cells = 0;
        for (int x = -1; x <= 10; x++) {
            for (int y = -1; y <= 4; y++) {
                for (int z = -1; z <= 4; z++) {
                    boolean in = x >= 4 && x < 6 && y >= 1 && y < 4 && z >= 0 && z < 2;
                    due(14, "at(" + x + ", " + y + ", " + z + ")", n.at(x, y, z), in ? 0 : NONE);
                    cells += in ? 1 : 0;
                }
            }
        }
        due(14, "cells", cells, 12);
        due(14, "at(least)", n.at(LEAST, 1, 0), NONE);
        due(14, "at(most)", n.at(MOST, MOST, MOST), NONE);
    }

    private static void axleLoads() {
        BoxNest n = new BoxNest();
        n.box(3, 2, 1, 7, 100, 0, false, 0);
        n.box(2, 2, 1, 10, 100, 5, false, 0);
        n.place(0, 7, 0, 0, false);
        n.place(1, 0, 0, 0, false);
        // 7 at 8.5 and 10 at 1: over 6 from 2 on: (45.5 - 10) / 6 = 71 / 12; 17 less that: 133 / 12
        due(15, "rear above", n.axle(1, 0, 0), 71);
        due(15, "rear below", n.axle(1, 0, 1), 12);
        due(15, "front above", n.axle(0, 0, 0), 133);
        due(15, "front below", n.axle(0, 0, 1), 12);
        // without 0: -10 / 6 and 70 / 6
        due(15, "rear above at 1", n.axle(1, 1, 0), -5);
        due(15, "rear below at 1", n.axle(1, 1, 1), 3);
        due(15, "front above at 5", n.axle(0, 5, 0), 35);
        due(15, "front below at 5", n.axle(0, 5, 1), 3);
        due(15, "all out", n.axle(0, 6, 0), 0);
        due(15, "all out", n.axle(0, 6, 1), 1);
        n.axles(1, 4, 0, 0);
        due(15, "just on the first", n.axle(1, 5, 0), 0);
        due(15, "just on the first", n.axle(1, 5, 1), 1);
        due(15, "just on the first", n.axle(0, 5, 0), 10);
        due(15, "just on the first", n.axle(0, 5, 1), 1);
        // behind the second: the front one is below 0: 7 at 8.5, over 3 from 1 on: 52.5 / 3 = 35 / 2, 10 in front of it
        n.take(1);
        due(15, "rear", n.axle(1, 0, 0), 35);
        due(15, "rear", n.axle(1, 0, 1), 2);
        due(15, "front", n.axle(0, 0, 0), -21);
        due(15, "front", n.axle(0, 0, 1), 2);
        int[][] bad = {{-1, 0, 0}, {2, 0, 0}, {0, -1, 0}, {0, 7, 0}, {0, 0, -1}, {0, 0, 2}, {LEAST, 0, 0}, {0, MOST, 0}, {0, 0, MOST}};
        for (int[] b : bad) {
            due(15, "axle(" + b[0] + ", " + b[1] + ", " + b[2] + ")", n.axle(b[0], b[1], b[2]), NO_AXLE);
        }
    }

    private static void overBits() {
        BoxNest n = new BoxNest();
        n.box(2, 2, 1, 12, 100, 2, false, 0);
        n.place(0, 4, 0, 0, false);
        // in the middle of both: 6 each
        n.axles(2, 8, 6, 6);
        due(16, "just the limits", n.over(0), 0);
        n.axles(2, 8, 5, 6);
        due(16, "front", n.over(0), 1);
        n.axles(2, 8, 6, 5);
        due(16, "rear", n.over(2), 2);
        n.axles(2, 8, 5, 5);
        due(16, "both", n.over(2), 3);
        due(16, "nothing in", n.over(3), 0);
        n.axles(6, 8, 100000, 100000);
        due(16, "rear below 0", n.over(0), 2);
        n.axles(1, 4, 100000, 100000);
        due(16, "front below 0", n.over(0), 1);
        n.axles(5, 8, 12, 0);
        due(16, "nothing on the rear, limit 0", n.over(0), 0);
        n.axles(1, 5, 0, 12);
        due(16, "nothing on the front, limit 0", n.over(0), 0);
        // its middle is 1 from the wall of 4: away by half of the half
        n.side(50);
        due(16, "just the side", n.over(0), 0);
        n.side(49);
        due(16, "side", n.over(0), 4);
        n.axles(1, 4, 100000, 11);
        due(16, "all", n.over(0), 7);
        due(16, "over(-1)", n.over(-1), RANGE);
        due(16, "over(7)", n.over(7), RANGE);
        due(16, "over(least)", n.over(LEAST), RANGE);
        n.clear();
        n.axles(1, 5, 100000, 100000);
        n.place(0, 4, 2, 0, false);
        due(16, "the other side", n.over(0), 4);
        n.side(50);
        due(16, "the other side, just", n.over(0), 0);
        n.clear();
        n.side(0);
        n.place(0, 4, 1, 0, false);
        n.axles(2, 8, 100000, 100000);
        due(16, "in the middle, side 0", n.over(0), 0);
        n.box(2, 1, 1, 4, 100, 0, false, 0);
        n.box(2, 1, 1, 4, 100, 0, false, 0);
        n.place(1, 6, 0, 0, false);
        due(16, "a weight aside", n.over(0), 4);
        n.place(2, 6, 3, 0, false);
        due(16, "and one against it", n.over(0), 0);
    }

    private static void fits() {
        BoxNest n = new BoxNest();
        n.box(2, 4, 1, 10, 100, 3, false, 0);
        n.box(2, 4, 1, 10, 100, 1, false, 0);
        n.place(0, 2, 0, 0, false);
        n.place(1, 6, 0, 0, false);
        due(17, "fit", n.fit(), NONE);
        // together 20 with the middle at 5; alone, from drop 2 on, 10 at 3: 25 / 3 in front
        n.axles(2, 8, 10, 10);
        due(17, "fit", n.fit(), NONE);
        n.axles(2, 8, 10, 9);
        due(17, "at once", n.fit(), 0);
        n.axles(2, 5, 6, 100);
        // together 0 in front; alone 10 at 3: 20 / 3
        due(17, "when 1 is out", n.fit(), 2);
        n.axles(2, 5, 7, 100);
        due(17, "fit", n.fit(), NONE);
        n.clear();
        n.axles(2, 8, 0, 0);
        due(17, "nothing in", n.fit(), NONE);
    }

    private static void cuts() {
        BoxNest n = new BoxNest();
        worthy(n, 3, 2, 1, true, 10);
        worthy(n, 2, 2, 2, false, 9);
        worthy(n, 1, 1, 1, false, 0);
        due(18, "a piece", n.cut(3, 2, 1), 10);
        due(18, "turned", n.cut(2, 3, 1), 10);
        due(18, "never tipped", n.cut(1, 2, 3), 0);
        due(18, "too small", n.cut(2, 2, 1), 0);
        due(18, "two pieces", n.cut(3, 4, 1), 20);
        due(18, "four turned", n.cut(4, 3, 2), 40);
        // four would go around the middle cell, but no through cut parts them
        due(18, "five by five", n.cut(5, 5, 1), 30);
        due(18, "four by five", n.cut(4, 5, 1), 30);
        due(18, "with waste", n.cut(4, 2, 1), 10);
        due(18, "the other one", n.cut(2, 2, 2), 9);
        due(18, "both", n.cut(5, 2, 2), 29);
        int[][] bad = {{0, 1, 1}, {17, 1, 1}, {1, 0, 1}, {1, 17, 1}, {1, 1, 0}, {1, 1, 17}, {LEAST, 1, 1}, {1, MOST, 1}, {1, 1, LEAST}};
        for (int[] b : bad) {
            due(18, "cut(" + b[0] + ", " + b[1] + ", " + b[2] + ")", n.cut(b[0], b[1], b[2]), RANGE);
        }
        due(18, "a smaller one again", n.cut(3, 2, 1), 10);
        worthy(n, 3, 2, 1, false, 11);
        due(18, "a new box is a new piece", n.cut(3, 2, 1), 11);
        due(18, "not turned", n.cut(2, 3, 1), 10);
        worthy(n, 1, 1, 1, false, 1000);
        due(18, "the most of all", n.cut(16, 16, 16), 4096000);
        due(18, "one cell", n.cut(1, 1, 1), 1000);
    }

    private static void pieces() {
        BoxNest n = new BoxNest();
        worthy(n, 3, 2, 1, true, 10);
        due(19, "no cut yet", n.piece(0, 0), NONE);
        due(19, "a cut", n.cut(2, 3, 1), 10);
        duePiece(19, n, 0, 0, 0, 0, 0, 1, NONE);
        duePiece(19, n, 1, NONE, NONE, NONE, NONE, NONE);
        duePiece(19, n, -1, NONE);
        duePiece(19, n, LEAST, NONE);
        duePiece(19, n, MOST, NONE);
        due(19, "piece(0, -1)", n.piece(0, -1), NONE);
        due(19, "piece(0, most)", n.piece(0, MOST), NONE);
        due(19, "a wrong cut", n.cut(17, 1, 1), RANGE);
        duePiece(19, n, 0, 0, 0, 0, 0, 1);
        due(19, "a wrong box", n.box(0, 1, 1, 1, 0, 0, false, 5), RANGE);
        duePiece(19, n, 0, 0, 0, 0, 0, 1);
        n.truck(5, 5, 5);
        n.set(0);
        duePiece(19, n, 0, 0, 0, 0, 0, 1);
        worthy(n, 12, 12, 12, false, 0);
        duePiece(19, n, 0, NONE, NONE, NONE, NONE, NONE);
        due(19, "a wrong cut", n.cut(17, 1, 1), RANGE);
        duePiece(19, n, 0, NONE);
        due(19, "a cut again", n.cut(3, 2, 1), 10);
        duePiece(19, n, 0, 0, 0, 0, 0, 0);
        due(19, "a cut worth nothing", n.cut(1, 1, 1), 0);
        duePiece(19, n, 0, NONE);
        for (int i = 0; i < 18; i++) {
            n.cut(3, 2, 1);
            worthy(n, 12, 12, 12, false, 0);
        }
        due(19, "a cut", n.cut(3, 2, 1), 10);
        due(19, "full", worthy(n, 1, 1, 1, false, 5), FULL);
        duePiece(19, n, 0, 0, 0, 0, 0, 0);
    }

    private static void pieceOrder() {
        // alike worth: the piece ahead of any cut, and of pieces the lowest number
        BoxNest n = new BoxNest();
        worthy(n, 1, 1, 1, false, 2);
        worthy(n, 2, 2, 1, false, 8);
        worthy(n, 2, 2, 1, true, 8);
        due(19, "cut", n.cut(2, 2, 1), 8);
        duePiece(19, n, 0, 1, 0, 0, 0, 0);
        duePiece(19, n, 1, NONE);
        // by length ahead of width ahead of height, the least part ahead first: so all in single cells
        due(19, "cut", n.cut(3, 3, 2), 36);
        int[][] cells = new int[18][];
        int at = 0;
        for (int x = 0; x < 3; x++) {
            for (int y = 0; y < 3; y++) {
                for (int z = 0; z < 2; z++) {
                    cells[at] = new int[] {0, x, y, z, 0};
                    at++;
                }
            }
        }
        for (int i = 0; i < 18; i++) {
            duePiece(19, n, i, cells[i]);
        }
        duePiece(19, n, 18, NONE);

        // a part that is worth nothing stands ahead where that is the least part
        BoxNest m = new BoxNest();
        worthy(m, 2, 1, 1, true, 5);
        due(19, "cut", m.cut(3, 3, 1), 20);
        // length 1 ahead: 1 x 3, of which 1 x 1 ahead is nothing; behind it 2 x 3: by length it has 10 only, so by width:
        // 2 x 1 ahead, and behind that 2 x 2, by length again
        duePiece(19, m, 0, 0, 0, 1, 0, 1);
        duePiece(19, m, 1, 0, 1, 0, 0, 0);
        duePiece(19, m, 2, 0, 1, 1, 0, 1);
        duePiece(19, m, 3, 0, 2, 1, 0, 1);
        duePiece(19, m, 4, NONE);
        due(19, "cut", m.cut(1, 1, 16), 0);
        duePiece(19, m, 0, NONE);

        BoxNest k = new BoxNest();
        worthy(k, 1, 1, 1, false, 1);
        due(19, "all cells", k.cut(16, 16, 16), 4096);
        duePiece(19, k, 0, 0, 0, 0, 0, 0);
        duePiece(19, k, 17, 0, 0, 1, 1, 0);
        duePiece(19, k, 256, 0, 1, 0, 0, 0);
        duePiece(19, k, 4095, 0, 15, 15, 15, 0);
        duePiece(19, k, 4096, NONE);
    }

    private static void trucksByVolume() {
        BoxNest n = new BoxNest();
        n.truck(4, 3, 2);
        for (int i = 0; i < 4; i++) {
            worthy(n, 4, 3, 1, false, 0);
        }
        worthy(n, 1, 1, 1, false, 0);
        worthy(n, 5, 1, 1, true, 0);
        worthy(n, 1, 1, 3, true, 0);
        worthy(n, 3, 4, 1, false, 0);
        worthy(n, 3, 4, 1, true, 0);
        due(20, "one", n.trucks(1), 1);
        due(20, "two", n.trucks(3), 1);
        due(20, "two and a cell", n.trucks(3 + 16), 2);
        due(21, "by volumes", n.shown(0), 2);
        due(21, "by big ones", n.shown(1), 1);
        due(21, "the big ones", n.shown(2), 1);
        due(20, "four", n.trucks(15), 2);
        due(20, "four and a cell", n.trucks(31), 3);
        due(20, "too long", n.trucks(32), STATE);
        due(20, "too long beside others", n.trucks(33), STATE);
        due(20, "too high", n.trucks(64), STATE);
        due(20, "it may not be turned", n.trucks(128), STATE);
        due(20, "it may be turned", n.trucks(256), 1);
        due(21, "the big one", n.shown(2), 256);
        due(20, "none", n.trucks(0), RANGE);
        due(20, "below 0", n.trucks(-1), RANGE);
        due(20, "least", n.trucks(LEAST), RANGE);
        due(20, "no such box", n.trucks(512), RANGE);
        due(20, "no such box beside others", n.trucks(512 + 32), RANGE);
        due(20, "most", n.trucks(MOST), RANGE);
        due(21, "as the latest that told a number", n.shown(0), 1);
        due(21, "as the latest that told a number", n.shown(2), 256);
        n.truck(12, 12, 12);
        worthy(n, 1, 1, 1, false, 0);
        due(21, "still", n.shown(2), 256);
        due(21, "shown(3)", n.shown(3), NONE);
        due(21, "shown(-1)", n.shown(-1), NONE);
        due(21, "shown(most)", n.shown(MOST), NONE);
        due(21, "shown(least)", n.shown(LEAST), NONE);
        n.set(0);
        due(20, "placed ones count like others", n.trucks(1), 1);
    }

    private static void trucksByBig() {
        BoxNest n = new BoxNest();
        n.truck(10, 4, 4);
        worthy(n, 5, 3, 3, false, 0);
        worthy(n, 6, 3, 3, false, 0);
        worthy(n, 5, 3, 3, false, 0);
        worthy(n, 6, 2, 3, false, 0);
        worthy(n, 6, 3, 2, false, 0);
        worthy(n, 7, 3, 3, false, 0);
        due(20, "5 and 5 go in one", n.trucks(5), 1);
        due(21, "of alike ones the least", n.shown(2), 1);
        due(20, "5 and 6 don't", n.trucks(3), 2);
        due(21, "both", n.shown(2), 3);
        due(20, "beside one another", n.trucks(2 + 8), 2);
        due(20, "2 and 2 beside", n.trucks(8), 1);
        due(20, "3 high and 2 high", n.trucks(2 + 16), 2);
        due(20, "2 wide, and 2 high: 5 each way", n.trucks(8 + 16), 2);
        due(20, "all", n.trucks(63), 5);
        due(21, "by volumes", n.shown(0), 2);
        due(21, "by big ones", n.shown(1), 5);
        due(21, "the first 5, not the second", n.shown(2), 59);
        due(20, "without the first", n.trucks(62), 5);
        due(21, "the second 5", n.shown(2), 62);
        n.truck(14, 4, 4);
        due(20, "in a longer truck none are apart", n.trucks(62), 2);
        due(21, "by volumes", n.shown(0), 2);
        due(21, "by big ones", n.shown(1), 1);
        due(21, "the least", n.shown(2), 2);

        // 4 x 3 turned is 3 x 4: two of them lie beside each other either way unless they may not turn
        BoxNest m = new BoxNest();
        m.truck(6, 6, 3);
        worthy(m, 4, 3, 2, true, 0);
        worthy(m, 4, 3, 2, true, 0);
        worthy(m, 4, 4, 2, false, 0);
        worthy(m, 5, 4, 2, true, 0);
        worthy(m, 7, 4, 2, true, 0);
        due(20, "beside each other", m.trucks(3), 1);
        due(20, "4 x 4 and 4 x 3", m.trucks(6), 2);
        due(20, "three", m.trucks(7), 2);
        due(21, "the least of two", m.shown(2), 5);
        due(20, "four", m.trucks(15), 3);
        due(21, "the least of three", m.shown(2), 13);
        due(20, "7 is too long either way", m.trucks(16), STATE);

        // only that way counts in which it fits: 7 x 4 turned would be 4 long, but the truck is 5 wide
        BoxNest k = new BoxNest();
        k.truck(8, 5, 3);
        worthy(k, 7, 4, 2, true, 0);
        worthy(k, 4, 2, 2, false, 0);
        worthy(k, 2, 4, 2, false, 0);
        due(20, "7 with 4: apart in length and width and height", k.trucks(3), 2);
        due(21, "both", k.shown(2), 3);
        due(20, "7 with 2", k.trucks(5), 2);
        due(20, "4 x 2 with 2 x 4: lengths 6 of 8", k.trucks(6), 1);
    }

    private static void counts() {
        BoxNest n = new BoxNest();
        n.truck(9, 5, 6);
        n.share(60);
        n.axles(1, 7, 500, 600);
        n.side(30);
        n.box(3, 2, 1, 7, 30, 4, true, 12);
        n.box(2, 2, 2, 8, 30, 4, true, 12);
        n.box(1, 1, 1, 9, 30, 4, true, 12);
        dueCounts(22, n, 3, 0, 0, 0, 0, 9, 5, 6, 60, 1, 7, 500, 600, 30, NONE);
        n.place(0, 6, 0, 0, true);
        dueCounts(22, n, 3, 1, 7, 8, 6);
        n.place(1, 3, 0, 0, false);
        dueCounts(22, n, 3, 2, 15, 8, 14);
        n.take(0);
        dueCounts(22, n, 3, 1, 8, 5, 8);
        due(22, "count(-1)", n.count(-1), NONE);
        due(22, "count(14)", n.count(14), NONE);
        due(22, "count(least)", n.count(LEAST), NONE);
        due(22, "count(most)", n.count(MOST), NONE);
    }
}
