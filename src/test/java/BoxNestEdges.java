import java.io.IOException;
import java.nio.charset.StandardCharsets;
import java.nio.file.Files;
import java.nio.file.Path;
import java.util.Arrays;
import java.util.TreeSet;

/**
 * Sentence by sentence: the words of the document that name a boundary case (the least, the greatest, too small,
 * too large, empty, full, a refused call) are quoted by says(..), and the calls behind it fail if those are broken.
 */
public final class BoxNestEdges {
    private static final int NONE = -1;
    private static final int RANGE = -2;
    private static final int FULL = -3;
    private static final int STATE = -4;
    private static final int NO_ABOUT = -9;
    private static final int NO_AXLE = -2000000000;
    private static final int LEAST = Integer.MIN_VALUE;
    private static final int MOST = Integer.MAX_VALUE;
    private static final Path DOC = Path.of("../shared/DOC.md");

    private static String doc = "";
    private static String quote = "";
    private static int quotes = 0;
    private static int asked = 0;
    private static int wrong = 0;
    private static final TreeSet<Integer> promises = new TreeSet<>();

    private interface Maker {
        BoxNest make();
    }

    private interface Call {
        int on(BoxNest n);
    }

    public static void main(String[] args) throws IOException {
        if (Files.isReadable(DOC)) {
            doc = oneLine(Files.readString(DOC, StandardCharsets.UTF_8));
        }
        Life.all();
        Told.all();
        Wrongs.all();
        Loads.all();
        Drops.all();
        Corners.all();
        Cuts.all();
        Trucks.all();
        Answers.all();
        for (int p = 1; p <= 22; p++) {
            if (!promises.contains(p)) {
                fail("promise " + p + " is not quoted");
            }
        }
        System.out.println(quotes + " quotes, " + asked + " asked: "
                + (wrong == 0 ? "all answers are as due" : wrong + " answers are not as due"));
        if (wrong != 0) {
            System.exit(1);
        }
    }

    private static String oneLine(String text) {
        return text.replaceAll("\\s+", " ");
    }

    /** What follows is a test of these words; they must stand in the document. */
    private static void says(String words) {
        quote = words;
        quotes++;
        if (!doc.isEmpty() && !doc.contains(oneLine(words))) {
            fail("these words are not in the document");
        }
    }

    /** The same, under the heading of a promise. */
    private static void says(int promise, String words) {
        promises.add(promise);
        says(words);
        int from = doc.indexOf("## Promise " + promise + ":");
        int end = from < 0 ? -1 : doc.indexOf("## ", from + 3);
        if (!doc.isEmpty() && (from < 0 || end < 0 || !doc.substring(from, end).contains(oneLine(words)))) {
            fail("these words are not in promise " + promise);
        }
    }

    private static void fail(String what) {
        wrong++;
        System.out.println("\"" + quote + "\": " + what);
    }

    private static void due(String what, int got, int want) {
        asked++;
        if (got != want) {
            fail(what + " answered " + got + ", due is " + want);
        }
    }

    private static void dueAll(String what, int[] got, int... want) {
        asked++;
        if (!Arrays.equals(got, want)) {
            fail(what + ": " + Arrays.toString(got) + ", due is " + Arrays.toString(want));
        }
    }

    /** The call is answered so, and nothing that can be seen is another than before. */
    private static void unmoved(String what, Maker maker, Call call, int want) {
        BoxNest n = maker.make();
        int[] before = seen(n);
        due(what, call.on(n), want);
        dueAll("what is seen after " + what, seen(n), before);
        due(what + " again", call.on(n), want);
    }

    /** Counts, what was shown, the first pieces, and of the first four and the last box all there is. */
    private static int[] seen(BoxNest n) {
        int[] all = new int[128];
        int at = 0;
        for (int what = 0; what < 14; what++) {
            all[at++] = n.count(what);
        }
        for (int what = 0; what < 3; what++) {
            all[at++] = n.shown(what);
        }
        for (int i = 0; i < 20; i++) {
            all[at++] = n.piece(i / 5, i % 5);
        }
        for (int b = 0; b < 5; b++) {
            for (int what = 0; what < 15; what++) {
                all[at++] = n.about(b < 4 ? b : n.count(0) - 1, what);
            }
        }
        for (int d = 0; d < 7; d++) {
            all[at++] = n.over(d);
            all[at++] = n.axle(0, d, 0);
        }
        all[at++] = n.at(6, 1, 0);
        all[at++] = n.fit();
        return all;
    }

    /** A box of weight 1 and drop 1 that bears all, doesn't turn and is worth nothing. */
    private static int box(BoxNest n, int length, int width, int height) {
        return n.box(length, width, height, 1, 20000, 1, false, 0);
    }

    private static int heavy(BoxNest n, int length, int width, int weight, int bears) {
        return n.box(length, width, 1, weight, bears, 1, false, 0);
    }

    private static int dropped(BoxNest n, int length, int width, int height, int drop) {
        return n.box(length, width, height, 1, 20000, drop, false, 0);
    }

    private static int worthy(BoxNest n, int length, int width, int height, boolean turns, int worth) {
        return n.box(length, width, height, 1, 0, 0, turns, worth);
    }

    private static BoxNest nest(int length, int width, int height, int share) {
        BoxNest n = new BoxNest();
        n.truck(length, width, height);
        n.share(share);
        return n;
    }

    private static int[] placeOf(BoxNest n, int b) {
        return new int[] {n.about(b, 9), n.about(b, 10), n.about(b, 11), n.about(b, 12)};
    }

    /** Two boxes in (1 on 0), 2 and 3 out (3 fits nowhere), all numbers told anew, a cut and trucks asked. */
    private static BoxNest laden() {
        BoxNest n = nest(11, 5, 6, 60);
        n.axles(1, 7, 500, 600);
        n.side(30);
        n.box(3, 2, 1, 7, 30, 4, true, 12);
        n.box(1, 2, 2, 8, 25, 3, false, 3);
        n.box(2, 2, 2, 9, 20, 2, true, 40);
        n.box(12, 1, 1, 1, 1, 5, false, 1);
        n.place(0, 6, 1, 0, true);
        n.place(1, 7, 1, 1, false);
        n.cut(4, 4, 2);
        n.trucks(5);
        return n;
    }

    /** The same with twenty boxes: 4 to 19 are single cells. */
    private static BoxNest filled() {
        BoxNest n = laden();
        while (n.count(0) < 20) {
            n.box(1, 1, 1, 1, 1, 1, false, 2);
        }
        n.cut(4, 4, 2);
        return n;
    }

    // ---- an object's life

    private static final class Life {
        static void all() {
            says("An object is used for at most 512 calls after it has been made");
            BoxNest n = new BoxNest();
            due("call 1", box(n, 2, 2, 2), 0);
            due("call 2", n.place(0, 3, 1, 0, false), 1);
            for (int call = 3; call <= 508; call++) {
                due("call " + call, call % 2 == 0 ? n.at(4, 2, 1) : n.about(0, 9), call % 2 == 0 ? 0 : 3);
            }
            due("call 509", n.clear(), 1);
            due("call 510", n.set(0), 1);
            due("call 511", n.about(0, 9), 0);
            due("call 512", n.take(0), 1);

            says(1, "No BOXES, the TRUCK as it is at first.");
            BoxNest m = new BoxNest();
            int[] first = {0, 0, 0, 0, 0, 10, 4, 4, 70, 2, 8, 100000, 100000, 100};
            for (int what = 0; what < first.length; what++) {
                due("count(" + what + ")", m.count(what), first[what]);
            }
            for (int what = 0; what < 15; what++) {
                due("about(0, " + what + ")", m.about(0, what), NO_ABOUT);
            }
            due("wrong", m.wrong(0, 0, 0, 0, false), RANGE);
            due("place", m.place(0, 0, 0, 0, false), RANGE);
            due("set", m.set(0), RANGE);
            due("take", m.take(0), RANGE);
            due("clear", m.clear(), 0);
            due("best", m.best(1), RANGE);
            due("at", m.at(0, 0, 0), NONE);
            due("trucks", m.trucks(1), RANGE);
            due("shown", m.shown(0), NONE);
            due("piece", m.piece(0, 0), NONE);
            due("cut", m.cut(16, 16, 16), 0);
            due("piece of a cut worth nothing", m.piece(0, 0), NONE);
            due("fit", m.fit(), NONE);
            for (int d = 0; d <= 6; d++) {
                due("over(" + d + ")", m.over(d), 0);
                due("axle(0, " + d + ", 0)", m.axle(0, d, 0), 0);
                due("axle(1, " + d + ", 1)", m.axle(1, d, 1), 1);
            }
            BoxNest other = new BoxNest();
            laden();
            due("another object's boxes", other.count(0), 0);
            due("another object's truck", other.count(5), 10);

            says("NONE = -1");
            due("NONE", BoxNest.NONE, -1);
            says("RANGE = -2");
            due("RANGE", BoxNest.RANGE, -2);
            says("FULL = -3");
            due("FULL", BoxNest.FULL, -3);
            says("STATE = -4");
            due("STATE", BoxNest.STATE, -4);
        }
    }

    // ---- what is told: Terms I, promises 2 to 6

    private static final class Told {
        static void all() {
            boxes();
            boxNumbers();
            truck();
            share();
            axles();
            side();
            fills();
            stands();
        }

        private static void boxes() {
            says("BOXES, at most 20, numbered from 0");
            BoxNest n = new BoxNest();
            for (int i = 0; i < 20; i++) {
                due("box " + i, box(n, 1, 1, 1), i);
                due("boxes", n.count(0), i + 1);
            }
            due("one more", box(n, 1, 1, 1), FULL);
            due("boxes", n.count(0), 20);
            due("the last one", n.about(19, 0), 1);
            due("none behind it", n.about(20, 0), NO_ABOUT);
            due("the last one is set", n.set(19), 1);
            due("none behind it is", n.set(20), RANGE);

            says(2, "A BOX: its number; RANGE; FULL.");
            unmoved("a box too many", BoxNestEdges::filled, m -> box(m, 1, 1, 1), FULL);
            unmoved("a wrong box too many", BoxNestEdges::filled, m -> box(m, 0, 1, 1), RANGE);
            BoxNest m = new BoxNest();
            due("the first", box(m, 1, 1, 1), 0);
            due("a refused one", box(m, 13, 1, 1), RANGE);
            due("it took no number", box(m, 2, 1, 1), 1);
            due("nothing of it is left", m.about(1, 0), 2);
            m.set(0);
            due("with one placed", box(m, 3, 1, 1), 2);
        }

        private static void boxNumbers() {
            says("length, width, height (1 .. 12 each)");
            for (int i = 0; i < 3; i++) {
                edges(i, i, 1, 12);
            }
            says("weight 1 .. 1000");
            edges(3, 3, 1, 1000);
            says("BEARS 0 .. 20000");
            edges(4, 4, 0, 20000);
            says("DROP 0 .. 5");
            edges(5, 5, 0, 5);
            says("a worth 0 .. 1000");
            edges(6, 7, 0, 1000);

            says("(0 is unloaded first)");
            BoxNest n = nest(10, 4, 4, 0);
            dropped(n, 2, 2, 2, 1);
            dropped(n, 2, 2, 2, 0);
            n.place(0, 4, 0, 0, false);
            due("0 behind 1", n.wrong(1, 0, 0, 0, false), 16);
            due("0 in front of 1", n.place(1, 6, 0, 0, false), 1);
            due("both weigh at drop 0: front", n.axle(0, 0, 0), 2);
            due("both weigh at drop 0: below", n.axle(0, 0, 1), 3);
            due("0 is out at drop 1: front", n.axle(0, 1, 0), 1);
            due("0 is out at drop 1: below", n.axle(0, 1, 1), 2);

            says("whether it may be TURNED (length and width change places)");
            BoxNest m = new BoxNest();
            m.box(3, 2, 1, 1, 0, 0, true, 0);
            m.box(3, 2, 1, 1, 0, 0, false, 0);
            due("may", m.about(0, 6), 1);
            due("may not", m.about(1, 6), 0);
            due("turned", m.place(0, 0, 0, 0, true), 1);
            due("two long", m.at(1, 0, 0), 0);
            due("not three long", m.at(2, 0, 0), NONE);
            due("three wide", m.at(0, 2, 0), 0);
            due("its end", m.count(3), 2);
            due("length as told", m.about(0, 0), 3);
            due("width as told", m.about(0, 1), 2);
        }

        /** Number i of the call, which about(b, what) tells: the least and the greatest are taken, those beyond refused. */
        private static void edges(int i, int what, int least, int most) {
            BoxNest n = new BoxNest();
            due("the least", boxWith(n, i, least), 0);
            due("the least as told", n.about(0, what), least);
            due("the greatest", boxWith(n, i, most), 1);
            due("the greatest as told", n.about(1, what), most);
            due("below the least", boxWith(n, i, least - 1), RANGE);
            due("above the greatest", boxWith(n, i, most + 1), RANGE);
            due("the least int", boxWith(n, i, LEAST), RANGE);
            due("the greatest int", boxWith(n, i, MOST), RANGE);
            due("boxes", n.count(0), 2);
            unmoved("a box too small", BoxNestEdges::laden, m -> boxWith(m, i, least - 1), RANGE);
            unmoved("a box too large", BoxNestEdges::laden, m -> boxWith(m, i, most + 1), RANGE);
        }

        private static int boxWith(BoxNest n, int i, int v) {
            int[] told = {2, 2, 2, 5, 5, 1, 5};
            told[i] = v;
            return n.box(told[0], told[1], told[2], told[3], told[4], told[5], true, told[6]);
        }

        private static void truck() {
            says("(10, 4, 4 at first)");
            BoxNest n = new BoxNest();
            box(n, 10, 4, 4);
            box(n, 11, 4, 4);
            box(n, 10, 5, 4);
            box(n, 10, 4, 5);
            due("just its sizes", n.wrong(0, 0, 0, 0, false), 0);
            due("longer", n.wrong(1, 0, 0, 0, false), 1);
            due("wider", n.wrong(2, 0, 0, 0, false), 1);
            due("higher", n.wrong(3, 0, 0, 0, false), 1);

            says("length 1 .. 40, width, height 1 .. 12");
            int[][] good = {{1, 4, 4}, {40, 4, 4}, {4, 1, 4}, {4, 12, 4}, {4, 4, 1}, {4, 4, 12}};
            for (int[] g : good) {
                BoxNest m = new BoxNest();
                due("truck" + Arrays.toString(g), m.truck(g[0], g[1], g[2]), 1);
                dueAll("its sizes", new int[] {m.count(5), m.count(6), m.count(7)}, g);
            }
            int[][] bad = {{0, 4, 4}, {41, 4, 4}, {4, 0, 4}, {4, 13, 4}, {4, 4, 0}, {4, 4, 13}, {-1, 4, 4}, {LEAST, 4, 4}, {MOST, 4, 4},
                {4, LEAST, 4}, {4, MOST, 4}, {4, 4, LEAST}, {4, 4, MOST}};
            for (int[] b : bad) {
                unmoved("truck" + Arrays.toString(b), () -> nest(9, 5, 6, 70), m -> m.truck(b[0], b[1], b[2]), RANGE);
            }
            BoxNest most = nest(40, 12, 12, 70);
            box(most, 12, 12, 12);
            due("at the end of the greatest", most.wrong(0, 28, 0, 0, false), 0);
            due("beyond it", most.wrong(0, 29, 0, 0, false), 1);
            BoxNest least = nest(1, 1, 1, 70);
            box(least, 1, 1, 1);
            box(least, 2, 1, 1);
            due("too long for the least", least.set(1), NONE);
            due("in the least", least.set(0), 1);
            due("the least is full", least.count(4), 1);

            says(3, "The TRUCK's sizes: 1; RANGE; STATE: some BOX is PLACED.");
            unmoved("with some placed", BoxNestEdges::laden, m -> m.truck(12, 12, 12), STATE);
            unmoved("the same sizes with some placed", BoxNestEdges::laden, m -> m.truck(11, 5, 6), STATE);
            unmoved("wrong sizes with some placed", BoxNestEdges::laden, m -> m.truck(41, 5, 6), RANGE);
            BoxNest m = laden();
            m.take(1);
            due("with one placed", m.truck(8, 8, 8), STATE);
            m.take(0);
            due("with none placed", m.truck(8, 8, 8), 1);
            due("its length", m.count(5), 8);
        }

        private static void share() {
            says("share 0 .. 100 (hundredths; 70 at first)");
            BoxNest n = new BoxNest();
            due("the least", n.share(0), 70);
            due("the greatest", n.share(100), 0);
            due("the greatest holds", n.count(8), 100);
            for (int s : new int[] {-1, 101, LEAST, MOST}) {
                unmoved("share(" + s + ")", () -> nest(9, 5, 6, 60), m -> m.share(s), RANGE);
            }

            says(4, "LAWS: share: what it was; RANGE; STATE likewise.");
            due("what it was", n.share(100), 100);
            unmoved("with some placed", BoxNestEdges::laden, m -> m.share(0), STATE);
            unmoved("the same with some placed", BoxNestEdges::laden, m -> m.share(60), STATE);
            unmoved("a wrong one with some placed", BoxNestEdges::laden, m -> m.share(101), RANGE);
            BoxNest m = laden();
            m.clear();
            due("with none placed", m.share(0), 60);
        }

        private static void axles() {
            says("the first below the second (0 .. 40; 2, 8 at first)");
            BoxNest n = new BoxNest();
            n.box(2, 1, 1, 6, 0, 0, false, 0);
            int[][] stands = {{0, -1, 7}, {1, 0, 6}, {7, 6, 0}, {8, 7, -1}};
            for (int[] s : stands) {
                n.place(0, s[0], 0, 0, false);
                due("rear, its middle at " + (s[0] + 1), n.axle(1, 0, 0), s[1]);
                due("front, its middle at " + (s[0] + 1), n.axle(0, 0, 0), s[2]);
                n.take(0);
            }
            due("the least", n.axles(0, 1, 5, 5), 1);
            due("the greatest", n.axles(39, 40, 5, 5), 1);
            due("the farthest apart", n.axles(0, 40, 5, 5), 1);
            due("first", n.count(9), 0);
            due("second", n.count(10), 40);
            int[][] bad = {{-1, 8}, {2, 41}, {40, 41}, {-1, 0}, {8, 8}, {0, 0}, {40, 40}, {9, 8}, {40, 0}, {LEAST, 8}, {2, MOST}, {LEAST, MOST},
                {MOST, LEAST}};
            for (int[] b : bad) {
                unmoved("axles" + Arrays.toString(b), BoxNestEdges::laden, m -> m.axles(b[0], b[1], 5, 5), RANGE);
            }

            says("each with a limit 0 .. 100000 (100000 at first)");
            due("the least", n.axles(2, 8, 0, 0), 1);
            due("the greatest", n.axles(2, 8, 100000, 100000), 1);
            int[][] limits = {{-1, 5}, {5, -1}, {100001, 5}, {5, 100001}, {LEAST, 5}, {5, LEAST}, {MOST, 5}, {5, MOST}};
            for (int[] b : limits) {
                unmoved("limits" + Arrays.toString(b), BoxNestEdges::laden, m -> m.axles(2, 8, b[0], b[1]), RANGE);
            }

            says(5, "AXLES: 1; RANGE.");
            BoxNest m = laden();
            due("with some placed", m.axles(3, 4, 7, 9), 1);
            dueAll("told", new int[] {m.count(9), m.count(10), m.count(11), m.count(12)}, 3, 4, 7, 9);
        }

        private static void side() {
            says("the SIDE limit 0 .. 100 (100 at first)");
            BoxNest n = new BoxNest();
            due("the least", n.side(0), 100);
            due("the greatest", n.side(100), 0);
            for (int s : new int[] {-1, 101, LEAST, MOST}) {
                unmoved("side(" + s + ")", BoxNestEdges::laden, m -> m.side(s), RANGE);
            }

            says(6, "The SIDE limit: what it was; RANGE.");
            due("what it was", n.side(100), 100);
            BoxNest m = laden();
            due("with some placed", m.side(0), 30);
            due("told", m.count(13), 0);
        }

        private static void fills() {
            says("(whole numbers from 0 on: length, width, height of its lowest corner)");
            BoxNest n = nest(10, 6, 6, 0);
            n.box(4, 2, 3, 1, 0, 0, true, 0);
            due("at 0", n.place(0, 0, 0, 0, false), 1);
            n.take(0);
            due("below 0", n.place(0, -1, 0, 0, false), RANGE);

            says("it fills from x up to x and its length, and so on");
            n.place(0, 3, 1, 2, false);
            dueAll("lowest cell, and those ahead of it",
                    new int[] {n.at(3, 1, 2), n.at(2, 1, 2), n.at(3, 0, 2), n.at(3, 1, 1)}, 0, NONE, NONE, NONE);
            dueAll("highest cell, and those behind it",
                    new int[] {n.at(6, 2, 4), n.at(7, 2, 4), n.at(6, 3, 4), n.at(6, 2, 5)}, 0, NONE, NONE, NONE);
            n.take(0);
            n.place(0, 3, 1, 2, true);
            dueAll("turned: highest cell, and those behind it",
                    new int[] {n.at(4, 4, 4), n.at(5, 4, 4), n.at(4, 5, 4), n.at(4, 4, 5)}, 0, NONE, NONE, NONE);
        }

        private static void stands() {
            says("It STANDS on a PLACED one, if that one's top is its z and their bases have something in common");
            BoxNest n = nest(10, 8, 6, 0);
            box(n, 2, 2, 2);
            box(n, 3, 3, 1);
            n.place(0, 4, 3, 0, false);
            int[][] at = {{4, 3, 2, 1}, {2, 1, 2, 1}, {5, 4, 2, 1}, {1, 3, 2, 0}, {6, 3, 2, 0}, {4, 0, 2, 0}, {4, 5, 2, 0}, {1, 0, 2, 0},
                {6, 5, 2, 0}, {4, 3, 3, 0}, {4, 3, 4, 0}};
            for (int[] p : at) {
                due("place" + Arrays.toString(p), n.place(1, p[0], p[1], p[2], false), 1);
                due("on how many at " + Arrays.toString(p), n.about(1, 14), p[3]);
                due("load below at " + Arrays.toString(p), n.about(0, 13), p[3]);
                due("take the lower one at " + Arrays.toString(p), n.take(0), p[3] == 1 ? 0 : 1);
                n.place(0, 4, 3, 0, false);
                n.take(1);
            }

            // where one was, or was only asked about, nothing is PLACED
            BoxNest out = nest(4, 4, 4, 70);
            box(out, 2, 2, 1);
            box(out, 2, 2, 1);
            out.place(0, 0, 0, 0, false);
            due("on one that is in", out.wrong(1, 0, 0, 1, false), 0);
            out.take(0);
            due("on one that was taken out", out.wrong(1, 0, 0, 1, false), 4);
            out.wrong(0, 0, 0, 0, false);
            due("on one that was asked about", out.wrong(1, 0, 0, 1, false), 4);
            out.set(0);
            due("on one that was set", out.wrong(1, 0, 0, 1, false), 0);
            out.clear();
            due("on one that was cleared out", out.wrong(1, 0, 0, 1, false), 4);

            says("with z 0 on the floor, with its whole base");
            BoxNest m = nest(12, 12, 12, 100);
            box(m, 12, 12, 12);
            due("all of it at share 100", m.wrong(0, 0, 0, 0, false), 0);
            due("placed so", m.place(0, 0, 0, 0, false), 1);
            due("on no box", m.about(0, 14), 0);
        }
    }

    // ---- what is wrong: Terms II, promises 7 and 8

    private static final class Wrongs {
        static void all() {
            outside();
            through();
            share();
            loads();
            front();
            above();
            notAsked();
            refusals();
        }

        private static void outside() {
            says("1 not all in the TRUCK");
            BoxNest n = nest(9, 8, 7, 0);
            n.box(3, 2, 4, 1, 0, 0, true, 0);
            int[][] at = {{6, 6, 3, 0}, {7, 6, 3, 1}, {6, 7, 3, 1}, {6, 6, 4, 1}, {9, 0, 0, 1}, {0, 8, 0, 1}, {0, 0, 7, 1}, {40, 40, 40, 1}};
            for (int[] p : at) {
                due("at " + Arrays.toString(p), n.wrong(0, p[0], p[1], p[2], false), p[3]);
            }
            int[][] turned = {{7, 5, 3, 0}, {8, 5, 3, 1}, {7, 6, 3, 1}, {7, 5, 4, 1}};
            for (int[] p : turned) {
                due("turned at " + Arrays.toString(p), n.wrong(0, p[0], p[1], p[2], true), p[3]);
            }
        }

        private static void through() {
            says("2 some part of it in another PLACED one");
            BoxNest n = nest(12, 9, 9, 0);
            box(n, 3, 2, 4);
            box(n, 2, 3, 2);
            box(n, 1, 1, 1);
            box(n, 9, 9, 9);
            n.place(0, 4, 3, 2, false);
            int[][] touching = {{2, 3, 2}, {7, 3, 2}, {4, 0, 2}, {4, 5, 2}, {4, 3, 0}, {4, 3, 6}};
            int[][] sharing = {{3, 3, 2}, {6, 3, 2}, {4, 1, 2}, {4, 4, 2}, {4, 3, 1}, {4, 3, 5}, {3, 1, 1}, {6, 4, 5}};
            for (int[] p : touching) {
                due("touching at " + Arrays.toString(p), n.wrong(1, p[0], p[1], p[2], false), 0);
            }
            for (int[] p : sharing) {
                due("sharing cells at " + Arrays.toString(p), n.wrong(1, p[0], p[1], p[2], false), 2);
            }
            due("all of it in the other", n.wrong(2, 5, 4, 3, false), 2);
            due("all of the other in it", n.wrong(3, 1, 0, 0, false), 2);
            n.take(0);
            due("the other is out again", n.wrong(2, 5, 4, 3, false), 0);
            due("both 1 and 2", n.place(1, 10, 6, 0, false) + n.wrong(3, 4, 0, 0, false), 4);
        }

        private static void share() {
            says("(100 times the areas below share times the base)");
            int[][] thirds = {{66, 2, 0}, {67, 2, 4}, {33, 1, 0}, {34, 1, 4}, {100, 3, 0}, {100, 2, 4}, {1, 1, 0}, {1, 0, 4}, {0, 0, 0}};
            for (int[] t : thirds) {
                BoxNest n = nest(6, 1, 2, t[0]);
                box(n, 3, 1, 1);
                box(n, 3, 1, 1);
                n.place(0, 3, 0, 0, false);
                due(t[1] + " of 3 at " + t[0], n.wrong(1, t[1], 0, 1, false), t[2]);
            }
            int[][] squares = {{1, 1, 4}, {1, 2, 0}, {8, 11, 4}, {8, 12, 0}, {100, 143, 4}, {100, 144, 0}};
            for (int[] s : squares) {
                due(s[1] + " of 144 at " + s[0], onCells(s[0], s[1]), s[2]);
            }

            says("the areas on which it STANDS together");
            BoxNest n = nest(10, 1, 3, 70);
            box(n, 4, 1, 1);
            box(n, 3, 1, 1);
            box(n, 10, 1, 1);
            box(n, 3, 1, 2);
            n.place(0, 0, 0, 0, false);
            due("4 of 10", n.wrong(2, 0, 0, 1, false), 4);
            n.place(1, 4, 0, 0, false);
            due("4 and 3 of 10", n.wrong(2, 0, 0, 1, false), 0);
            n.take(1);
            n.place(3, 4, 0, 0, false);
            due("4 of 10 and one that is higher", n.wrong(2, 0, 0, 2, false), 4);
        }

        /** A base of 12 x 12 on so many cells: on a row of 11 or 12 cells and, for more, on another box. */
        private static int onCells(int share, int cells) {
            BoxNest n = nest(12, 12, 2, share);
            box(n, 12, 12, 1);
            if (cells >= 143) {
                box(n, 12, 11, 1);
                n.place(1, 0, 0, 0, false);
                box(n, cells - 132, 1, 1);
                n.place(2, 0, 11, 0, false);
            } else {
                box(n, cells, 1, 1);
                n.place(1, 0, 5, 0, false);
            }
            return n.wrong(0, 0, 0, 1, false);
        }

        private static void loads() {
            says("8 some BOX would have more LOAD on it than it BEARS");
            int[][] edges = {{0, 1, 8}, {1, 1, 0}, {1, 2, 8}, {999, 1000, 8}, {1000, 1000, 0}, {20000, 1000, 0}};
            for (int[] e : edges) {
                BoxNest n = nest(2, 2, 2, 100);
                heavy(n, 2, 2, 1, e[0]);
                heavy(n, 2, 2, e[1], 0);
                n.place(0, 0, 0, 0, false);
                due(e[1] + " on one that bears " + e[0], n.wrong(1, 0, 0, 1, false), e[2]);
            }
            for (int bears = 18999; bears <= 19000; bears++) {
                BoxNest n = nest(12, 12, 2, 100);
                heavy(n, 12, 12, 1000, bears);
                n.place(0, 0, 0, 0, false);
                for (int i = 1; i < 20; i++) {
                    heavy(n, 2, 2, 1000, 0);
                    due("number " + i + " of 19 on one that bears " + bears,
                            n.place(i, 2 * (i % 6), 2 * (i / 6), 1, false), bears == 18999 && i == 19 ? 0 : 1);
                }
                due("its load", n.about(0, 13), bears == 18999 ? 18000 : 19000);
            }
            BoxNest n = nest(4, 1, 4, 50);
            heavy(n, 2, 1, 1, 11);
            heavy(n, 2, 1, 4, 7);
            heavy(n, 2, 1, 7, 0);
            heavy(n, 2, 1, 8, 0);
            n.place(0, 0, 0, 0, false);
            n.place(1, 0, 0, 1, false);
            due("just what both bear: 7 and 11", n.wrong(2, 0, 0, 2, false), 0);
            due("8 and 12", n.wrong(3, 0, 0, 2, false), 8);
            BoxNest m = nest(4, 1, 4, 50);
            heavy(m, 2, 1, 1, 11);
            heavy(m, 2, 1, 4, 20);
            heavy(m, 2, 1, 8, 0);
            m.place(0, 0, 0, 0, false);
            m.place(1, 0, 0, 1, false);
            due("the upper one bears it, the lowest not", m.wrong(2, 0, 0, 2, false), 8);
            BoxNest k = nest(4, 1, 4, 50);
            heavy(k, 2, 1, 1, 100);
            heavy(k, 4, 1, 9, 0);
            heavy(k, 2, 1, 1, 4);
            heavy(k, 2, 1, 1, 3);
            k.place(0, 0, 0, 0, false);
            k.place(1, 0, 0, 1, false);
            due("put below, it gets 4 and bears 4", k.wrong(2, 2, 0, 0, false), 0);
            due("put below, it gets 4 and bears 3", k.wrong(3, 2, 0, 0, false), 8);
        }

        private static void front() {
            says("of unlike DROPS the later unloaded one in front (its x not below the other's end, both having something in common"
                    + " in width and height)");
            int[][] drops = {{0, 0, 0}, {0, 1, 16}, {1, 0, 0}, {0, 5, 16}, {5, 0, 0}, {4, 5, 16}, {5, 5, 0}};
            for (int[] d : drops) {
                BoxNest n = nest(10, 8, 8, 0);
                dropped(n, 2, 2, 2, d[0]);
                dropped(n, 2, 2, 2, d[1]);
                n.place(0, 3, 3, 3, false);
                due(d[1] + " right in front of " + d[0], n.wrong(1, 5, 3, 3, false), d[2]);
                due(d[1] + " far in front of " + d[0], n.wrong(1, 8, 3, 3, false), d[2]);
                due(d[1] + " right behind " + d[0], n.wrong(1, 1, 3, 3, false), d[0] == d[1] ? 0 : 16 - d[2]);
                due(d[1] + " far behind " + d[0], n.wrong(1, 0, 3, 3, false), d[0] == d[1] ? 0 : 16 - d[2]);
            }
            BoxNest n = nest(10, 8, 8, 0);
            dropped(n, 2, 2, 2, 2);
            dropped(n, 2, 2, 2, 3);
            n.place(0, 3, 3, 3, false);
            int[][] at = {{5, 2, 3, 16}, {5, 1, 3, 0}, {5, 4, 3, 16}, {5, 5, 3, 0}, {5, 3, 2, 16}, {5, 3, 1, 0}, {5, 3, 4, 16}, {5, 3, 5, 0},
                {5, 2, 2, 16}, {5, 4, 4, 16}, {5, 5, 5, 0}, {4, 5, 3, 0}, {3, 1, 3, 0}};
            for (int[] p : at) {
                due("at " + Arrays.toString(p), n.wrong(1, p[0], p[1], p[2], false), p[3]);
            }

            says("one of two is in the way of the other");
            BoxNest m = nest(10, 2, 2, 0);
            dropped(m, 2, 2, 2, 3);
            dropped(m, 2, 2, 2, 1);
            dropped(m, 2, 2, 2, 2);
            m.place(0, 0, 0, 0, false);
            m.place(1, 8, 0, 0, false);
            due("between both", m.wrong(2, 4, 0, 0, false), 0);
            due("still, right beside the first", m.wrong(2, 2, 0, 0, false), 0);
            m.clear();
            m.place(1, 4, 0, 0, false);
            due("the new one in the way", m.wrong(2, 6, 0, 0, false), 16);
            m.clear();
            m.place(2, 4, 0, 0, false);
            due("the one that is in in the way", m.wrong(1, 2, 0, 0, false), 16);
        }

        private static void above() {
            says("or above (its z not below the other's top, the bases having something in common)");
            int[][] drops = {{0, 0, 0}, {0, 1, 16}, {1, 0, 0}, {0, 5, 16}, {5, 0, 0}, {4, 5, 16}};
            for (int[] d : drops) {
                BoxNest n = nest(10, 8, 8, 0);
                dropped(n, 2, 2, 2, d[0]);
                dropped(n, 2, 2, 2, d[1]);
                n.place(0, 3, 3, 3, false);
                due(d[1] + " right above " + d[0], n.wrong(1, 3, 3, 5, false), d[2]);
                due(d[1] + " far above " + d[0], n.wrong(1, 3, 3, 6, false), d[2]);
                due(d[1] + " right below " + d[0], n.wrong(1, 3, 3, 1, false), d[0] == d[1] ? 0 : 16 - d[2]);
                due(d[1] + " far below " + d[0], n.wrong(1, 3, 3, 0, false), d[0] == d[1] ? 0 : 16 - d[2]);
            }
            BoxNest n = nest(10, 8, 8, 0);
            dropped(n, 2, 2, 2, 2);
            dropped(n, 2, 2, 2, 3);
            n.place(0, 3, 3, 3, false);
            int[][] at = {{2, 3, 5, 16}, {1, 3, 5, 0}, {4, 3, 5, 16}, {5, 3, 5, 0}, {3, 2, 5, 16}, {3, 1, 5, 0}, {3, 4, 5, 16}, {3, 5, 5, 0},
                {2, 2, 5, 16}, {4, 4, 5, 16}, {5, 5, 5, 0}, {1, 1, 5, 0}};
            for (int[] p : at) {
                due("at " + Arrays.toString(p), n.wrong(1, p[0], p[1], p[2], false), p[3]);
            }
        }

        private static void notAsked() {
            says("(4, 8 and 16 are asked without 1 and 2 alone, 8 without 4 besides; else they are not set.)");
            BoxNest n = new BoxNest();
            n.box(2, 2, 1, 5, 0, 0, false, 0);
            n.box(2, 2, 2, 5, 0, 1, false, 0);
            n.box(2, 2, 4, 5, 0, 1, false, 0);
            n.place(0, 8, 0, 0, false);
            due("above the sooner one, too much for it: 8 and 16", n.wrong(1, 8, 0, 1, false), 24);
            due("half of it held: 4 and 16, not 8", n.wrong(1, 7, 0, 1, false), 20);
            due("half of it out: 1 alone", n.wrong(1, 9, 0, 1, false), 1);
            due("too high: 1 alone", n.wrong(2, 8, 0, 1, false), 1);
            due("half in the other: 2 alone", n.wrong(1, 7, 0, 0, false), 2);
            due("in the other and out: 1 and 2 alone", n.wrong(1, 9, 0, 0, false), 3);
            due("in the air: 4 alone", n.wrong(1, 0, 2, 1, false), 4);
            due("on the floor: nothing", n.wrong(1, 0, 2, 0, false), 0);
            BoxNest m = new BoxNest();
            m.box(2, 2, 1, 5, 0, 1, false, 0);
            m.box(2, 2, 2, 5, 0, 1, false, 0);
            m.place(0, 8, 0, 0, false);
            due("too much for it: 8 alone", m.wrong(1, 8, 0, 1, false), 8);
            due("half of it held: 4, not 8", m.wrong(1, 7, 0, 1, false), 4);
            BoxNest k = new BoxNest();
            dropped(k, 2, 2, 1, 0);
            dropped(k, 2, 2, 2, 1);
            k.place(0, 6, 0, 0, false);
            due("above the sooner one: 16 alone", k.wrong(1, 6, 0, 1, false), 16);
            due("in front of the sooner one: 16 alone", k.wrong(1, 8, 0, 0, false), 16);
        }

        private static void refusals() {
            says(7, "RANGE: no such BOX, x, y, z (0 .. 40), turned though it may not be; STATE: it is PLACED.");
            int[][] bad = {{-1, 0, 0, 0}, {4, 0, 0, 0}, {20, 0, 0, 0}, {32, 0, 0, 0}, {LEAST, 0, 0, 0}, {MOST, 0, 0, 0},
                {2, -1, 0, 0}, {2, 41, 0, 0}, {2, 0, -1, 0}, {2, 0, 41, 0}, {2, 0, 0, -1}, {2, 0, 0, 41},
                {2, LEAST, 0, 0}, {2, MOST, 0, 0}, {2, 0, LEAST, 0}, {2, 0, MOST, 0}, {2, 0, 0, LEAST}, {2, 0, 0, MOST}, {0, -1, 0, 0}, {0, 0, 0, 41}};
            for (int[] b : bad) {
                unmoved("wrong" + Arrays.toString(b), BoxNestEdges::laden, n -> n.wrong(b[0], b[1], b[2], b[3], false), RANGE);
            }
            int[][] edges = {{40, 0, 0}, {0, 40, 0}, {0, 0, 40}, {40, 40, 40}};
            for (int[] e : edges) {
                unmoved("wrong at " + Arrays.toString(e), BoxNestEdges::laden, n -> n.wrong(2, e[0], e[1], e[2], false), 1);
            }
            unmoved("turned, may not", BoxNestEdges::laden, n -> n.wrong(3, 0, 0, 0, true), RANGE);
            unmoved("turned, may not, placed", BoxNestEdges::laden, n -> n.wrong(1, 0, 0, 0, true), RANGE);
            unmoved("turned, may, placed", BoxNestEdges::laden, n -> n.wrong(0, 0, 0, 0, true), STATE);
            unmoved("placed", BoxNestEdges::laden, n -> n.wrong(1, 0, 0, 0, false), STATE);
            unmoved("placed, at its own place", BoxNestEdges::laden, n -> n.wrong(0, 6, 1, 0, true), STATE);
            unmoved("placed, at a wrong place", BoxNestEdges::laden, n -> n.wrong(0, 40, 40, 40, false), STATE);
            unmoved("nothing wrong", BoxNestEdges::laden, n -> n.wrong(2, 8, 1, 0, false), 0);
            unmoved("a square one turned", BoxNestEdges::laden, n -> n.wrong(2, 8, 1, 0, true), 0);

            says(8, "A BOX is PLACED: 1; 0: something is WRONG (it isn't); RANGE, STATE likewise.");
            for (int[] b : bad) {
                unmoved("place" + Arrays.toString(b), BoxNestEdges::laden, n -> n.place(b[0], b[1], b[2], b[3], false), RANGE);
            }
            for (int[] e : edges) {
                unmoved("place at " + Arrays.toString(e), BoxNestEdges::laden, n -> n.place(2, e[0], e[1], e[2], false), 0);
            }
            unmoved("turned, may not", BoxNestEdges::laden, n -> n.place(3, 0, 0, 0, true), RANGE);
            unmoved("turned, may not, placed", BoxNestEdges::laden, n -> n.place(1, 0, 0, 0, true), RANGE);
            unmoved("placed", BoxNestEdges::laden, n -> n.place(1, 0, 0, 0, false), STATE);
            unmoved("placed, at its own place", BoxNestEdges::laden, n -> n.place(0, 6, 1, 0, true), STATE);
            unmoved("1: out", BoxNestEdges::laden, n -> n.place(2, 10, 0, 0, false), 0);
            unmoved("2: through", BoxNestEdges::laden, n -> n.place(2, 6, 1, 0, false), 0);
            unmoved("4: in the air", BoxNestEdges::laden, n -> n.place(2, 0, 0, 1, false), 0);
            unmoved("16: behind a later one", BoxNestEdges::laden, n -> n.place(2, 3, 1, 0, false), 0);
            BoxNest m = nest(2, 2, 3, 100);
            heavy(m, 2, 2, 1, 4);
            heavy(m, 2, 2, 5, 0);
            m.place(0, 0, 0, 0, false);
            due("8: too heavy", m.place(1, 0, 0, 1, false), 0);
            due("it isn't", m.about(1, 8), 0);
            BoxNest n = laden();
            due("placed", n.place(2, 8, 3, 0, true), 1);
            dueAll("there", placeOf(n, 2), 8, 3, 0, 1);
            due("placed ones", n.count(1), 3);
        }
    }

    // ---- loads and taking out: Terms II, promises 10 and 11

    private static final class Loads {
        static void all() {
            parts();
            levels();
            takes();
        }

        private static void parts() {
            says("each the whole part of its share of the sum, what is left over by one each to the lowest numbers");
            // the cells below each of three, the weight, and what they get
            int[][] rows = {{1, 1, 1, 1, 1, 0, 0}, {1, 1, 1, 2, 1, 1, 0}, {1, 1, 1, 3, 1, 1, 1}, {1, 2, 3, 1, 1, 0, 0}, {1, 2, 3, 6, 1, 2, 3},
                {1, 2, 3, 5, 1, 2, 2}, {1, 2, 3, 11, 2, 4, 5}, {3, 2, 1, 11, 6, 4, 1}, {4, 4, 4, 1000, 334, 333, 333}, {2, 1, 2, 2, 1, 1, 0},
                {2, 1, 2, 3, 2, 0, 1}};
            for (int[] r : rows) {
                BoxNest n = nest(12, 1, 2, 100);
                heavy(n, r[0], 1, 1, 20000);
                heavy(n, r[1], 1, 1, 20000);
                heavy(n, r[2], 1, 1, 20000);
                heavy(n, r[0] + r[1] + r[2], 1, r[3], 0);
                // the lowest number stands last in the row: numbers count, not places
                n.place(2, 0, 0, 0, false);
                n.place(1, r[2], 0, 0, false);
                n.place(0, r[2] + r[1], 0, 0, false);
                due("the upper one", n.place(3, 0, 0, 1, false), 1);
                dueAll("of " + Arrays.toString(r), new int[] {n.about(0, 13), n.about(1, 13), n.about(2, 13)}, r[4], r[5], r[6]);
            }
            // of five numbers only 2 and 4 are below: 0 stands beside, 1 is out, and 3 itself lies above
            BoxNest beside = nest(6, 1, 2, 100);
            for (int i = 0; i < 5; i++) {
                heavy(beside, i == 3 ? 4 : 2, 1, 7, 20000);
            }
            beside.place(0, 4, 0, 0, false);
            beside.place(4, 0, 0, 0, false);
            beside.place(2, 2, 0, 0, false);
            beside.place(3, 0, 0, 1, false);
            dueAll("what is left over goes to none but those below", new int[] {beside.about(0, 13), beside.about(1, 13), beside.about(2, 13),
                beside.about(3, 13), beside.about(4, 13)}, 0, 0, 4, 0, 3);
            BoxNest n = nest(12, 2, 2, 0);
            heavy(n, 2, 2, 1, 20000);
            heavy(n, 2, 2, 1, 20000);
            heavy(n, 10, 2, 7, 20000);
            n.place(0, 0, 0, 0, false);
            n.place(1, 8, 0, 0, false);
            n.place(2, 1, 0, 1, false);
            dueAll("only what lies on them: 2 and 4 of 6 cells, not of the base of 20",
                    new int[] {n.about(0, 13), n.about(1, 13)}, 3, 4);

            says("on the floor all to the floor");
            due("none on those beside", n.about(2, 13), 0);
            BoxNest m = nest(4, 2, 2, 0);
            heavy(m, 2, 2, 1000, 0);
            heavy(m, 2, 2, 1000, 0);
            due("the floor bears all", m.place(0, 0, 0, 0, false), 1);
            due("and beside it", m.place(1, 2, 0, 0, false), 1);
            due("no load", m.about(0, 13) + m.about(1, 13), 0);
        }

        private static void levels() {
            says("from the highest top down (of alike ones the lowest number first), each PLACED BOX gives its weight and LOAD");
            // 3 (weight 5) on 2 (weight 4) and on nothing else; 2 on 0 and 1; 4 (weight 2, as high as 2) on 1 alone
            BoxNest n = nest(6, 1, 3, 50);
            heavy(n, 2, 1, 1, 20000);
            heavy(n, 4, 1, 1, 20000);
            heavy(n, 4, 1, 4, 20000);
            heavy(n, 2, 1, 5, 20000);
            heavy(n, 2, 1, 2, 20000);
            n.place(0, 0, 0, 0, false);
            n.place(1, 2, 0, 0, false);
            n.place(2, 0, 0, 1, false);
            n.place(3, 0, 0, 2, false);
            n.place(4, 4, 0, 1, false);
            dueAll("loads", new int[] {n.about(0, 13), n.about(1, 13), n.about(2, 13), n.about(3, 13), n.about(4, 13)}, 5, 6, 5, 0, 0);
            // a high and a low one on the same: the high one's top is higher, though both stand at 1
            BoxNest m = nest(4, 1, 12, 100);
            heavy(m, 4, 1, 1, 20000);
            m.box(2, 1, 11, 3, 0, 1, false, 0);
            heavy(m, 2, 1, 4, 20000);
            heavy(m, 2, 1, 6, 20000);
            m.place(0, 0, 0, 0, false);
            due("to the roof", m.place(1, 0, 0, 1, false), 1);
            m.place(2, 2, 0, 1, false);
            m.place(3, 2, 0, 2, false);
            dueAll("loads", new int[] {m.about(0, 13), m.about(1, 13), m.about(2, 13)}, 13, 0, 6);
            BoxNest k = nest(1, 1, 12, 100);
            for (int i = 0; i < 12; i++) {
                heavy(k, 1, 1, 1000, 1000 * (11 - i));
                due("one of twelve", k.place(i, 0, 0, i, false), 1);
            }
            for (int i = 0; i < 12; i++) {
                due("load of " + i, k.about(i, 13), 1000 * (11 - i));
            }
            heavy(k, 1, 1, 1, 0);
            due("one more is beyond the roof", k.wrong(12, 0, 0, 12, false), 1);
        }

        private static void takes() {
            says("A PLACED one may be taken out only if nothing STANDS on it.");
            unmoved("one stands on it", BoxNestEdges::laden, n -> n.take(0), 0);
            BoxNest n = nest(6, 4, 6, 0);
            box(n, 3, 3, 1);
            box(n, 3, 3, 1);
            n.place(0, 0, 0, 0, false);
            n.place(1, 2, 1, 1, false);
            due("with its last two cells", n.take(0), 0);
            n.take(1);
            n.place(1, 3, 1, 1, false);
            due("beside it, at its end", n.take(0), 1);
            n.clear();
            n.place(1, 0, 0, 0, false);
            n.place(0, 0, 0, 1, false);
            due("the lower number on the higher", n.take(1), 0);
            due("the lower number first", n.take(0), 1);
            due("then the higher", n.take(1), 1);

            says(10, "A PLACED BOX is taken out: 1; 0: something STANDS on it; RANGE; STATE: it isn't PLACED.");
            for (int b : new int[] {-1, 4, 20, 31, 32, LEAST, MOST}) {
                unmoved("take(" + b + ")", BoxNestEdges::laden, m -> m.take(b), RANGE);
            }
            unmoved("not placed", BoxNestEdges::laden, m -> m.take(2), STATE);
            BoxNest m = laden();
            due("the upper one", m.take(1), 1);
            due("twice", m.take(1), STATE);
            dueAll("it is nowhere", placeOf(m, 1), NONE, NONE, NONE, 0);
            due("load", m.about(0, 13), 0);
            due("the lower one", m.take(0), 1);
            due("none is in", m.count(1), 0);
            due("it can come again", m.place(1, 0, 0, 0, false), 1);

            says(11, "All BOXES are out: how many were in.");
            BoxNest k = laden();
            due("two were in", k.clear(), 2);
            due("none was in", k.clear(), 0);
            dueAll("counts", new int[] {k.count(0), k.count(1), k.count(2), k.count(3), k.count(4)}, 4, 0, 0, 0, 0);
            dueAll("the lower one", placeOf(k, 0), NONE, NONE, NONE, 0);
            dueAll("the upper one", placeOf(k, 1), NONE, NONE, NONE, 0);
            dueAll("the laws stay", new int[] {k.count(5), k.count(8), k.count(9), k.count(11), k.count(13)}, 11, 60, 1, 500, 30);
            BoxNest row = nest(20, 1, 1, 0);
            for (int i = 0; i < 20; i++) {
                box(row, 1, 1, 1);
                row.set(i);
            }
            due("all twenty were in", row.clear(), 20);
        }
    }

    // ---- drops: Terms III, promises 15 to 17

    private static final class Drops {
        static void all() {
            out();
            loads();
            limits();
            side();
            answers();
        }

        private static void out() {
            says("at drop d (0 .. 6) BOXES of DROPS below d are out (nothing else moves)");
            // one of each drop, of weights 1, 2, 4 .. 32, all with their middles on the first axle
            BoxNest n = nest(4, 12, 2, 0);
            n.axles(1, 2, 100000, 100000);
            for (int d = 0; d <= 5; d++) {
                n.box(2, 2, 1, 1 << d, 100, d, false, 0);
                due("place " + d, n.place(d, 0, 2 * d, 0, false), 1);
            }
            for (int d = 0; d <= 6; d++) {
                due("front at " + d, n.axle(0, d, 0), 63 - ((1 << d) - 1));
                due("rear at " + d, n.axle(1, d, 0), 0);
            }
            due("all are in still", n.count(1), 6);
            due("and where they were", n.at(0, 0, 0), 0);
            // the sooner one stands on the later one, which stays where it is
            BoxNest m = new BoxNest();
            m.box(2, 2, 1, 6, 100, 5, false, 0);
            m.box(2, 2, 1, 6, 100, 0, false, 0);
            m.place(0, 5, 0, 0, false);
            m.place(1, 5, 0, 1, false);
            due("6 at 6: 4 in the rear", m.axle(1, 5, 0), 4);
            due("12 at 6: 8 in the rear", m.axle(1, 0, 0), 8);
        }

        private static void loads() {
            says("the rear AXLE's LOAD is the sum of weights times (their middle of length less the first place) over (second less first place);"
                    + " the front one's the sum of weights less that: fractions, cut; (they may be below 0)");
            // length, x, weight, first, second; rear above, below; front above, below
            int[][] rows = {{1, 0, 1, 0, 1, 1, 2, 1, 2}, {2, 4, 6, 2, 8, 3, 1, 3, 1}, {1, 0, 1, 2, 8, -1, 4, 5, 4}, {1, 9, 4, 2, 8, 5, 1, -1, 1},
                {3, 0, 4, 2, 8, -1, 3, 13, 3}, {1, 0, 1000, 39, 40, -38500, 1, 39500, 1}, {1, 0, 1, 39, 40, -77, 2, 79, 2},
                {2, 1, 1000, 2, 8, 0, 1, 1000, 1}, {2, 7, 1000, 2, 8, 1000, 1, 0, 1}, {1, 39, 1000, 0, 1, 39500, 1, -38500, 1},
                {1, 0, 1, 0, 40, 1, 80, 79, 80}};
            for (int[] r : rows) {
                BoxNest n = nest(40, 4, 4, 70);
                n.box(r[0], 1, 1, r[2], 0, 0, false, 0);
                n.place(0, r[1], 0, 0, false);
                n.axles(r[3], r[4], 0, 0);
                dueAll("axles of " + Arrays.toString(r),
                        new int[] {n.axle(1, 0, 0), n.axle(1, 0, 1), n.axle(0, 0, 0), n.axle(0, 0, 1)}, r[5], r[6], r[7], r[8]);
            }
            BoxNest n = new BoxNest();
            n.box(3, 1, 1, 1, 0, 0, true, 0);
            n.axles(0, 10, 0, 0);
            n.place(0, 0, 0, 0, true);
            due("turned, its middle is at a half: 1 of 20", n.axle(1, 0, 0), 1);
            due("turned, its middle is at a half: 1 of 20", n.axle(1, 0, 1), 20);
            // the most there is: all twenty of 1000 at the far end of the longest truck
            BoxNest m = nest(40, 10, 2, 100);
            m.axles(0, 1, 100000, 100000);
            for (int i = 0; i < 20; i++) {
                heavy(m, 1, 1, 1000, 20000);
                due("place " + i, m.place(i, 39, i % 10, i / 10, false), 1);
            }
            due("rear", m.axle(1, 0, 0), 790000);
            due("front", m.axle(0, 0, 0), -770000);
        }

        private static void limits() {
            says("1 front, 2 rear above its limit or below 0");
            // weight, x of a box 2 long, axles 2 and 8, both limits, over
            int[][] rows = {{12, 4, 6, 6, 0}, {12, 4, 5, 6, 1}, {12, 4, 6, 5, 2}, {12, 4, 5, 5, 3}, {13, 4, 6, 6, 3}, {13, 4, 7, 7, 0},
                {6, 1, 6, 0, 0}, {6, 1, 5, 0, 1}, {6, 7, 0, 6, 0}, {6, 7, 0, 5, 2}, {6, 0, 7, 0, 2}, {6, 0, 6, 0, 3}, {6, 8, 0, 7, 1},
                {6, 8, 0, 6, 3}, {1, 0, 100000, 100000, 2}, {1, 8, 100000, 100000, 1}};
            for (int[] r : rows) {
                BoxNest n = new BoxNest();
                n.box(2, 4, 1, r[0], 0, 0, false, 0);
                n.place(0, r[1], 0, 0, false);
                n.axles(2, 8, r[2], r[3]);
                due("over of " + Arrays.toString(r), n.over(0), r[4]);
            }
            // 1000 at 30, 35 and 35 is just 100000 over the rear of 0 and 1; the front is below 0
            BoxNest n = nest(40, 12, 1, 0);
            n.axles(0, 1, 100000, 100000);
            int[] places = {29, 34, 34};
            for (int i = 0; i < 3; i++) {
                heavy(n, 2, 4, 1000, 0);
                n.place(i, places[i], 4 * i, 0, false);
            }
            due("just the greatest limit", n.over(0), 1);
            due("rear", n.axle(1, 0, 0), 100000);
            heavy(n, 1, 1, 1, 0);
            n.place(3, 0, 0, 0, false);
            due("a half beyond", n.over(0), 3);
            BoxNest m = nest(40, 12, 1, 0);
            m.axles(39, 40, 100000, 100000);
            int[] others = {0, 0, 17};
            for (int i = 0; i < 3; i++) {
                heavy(m, 2, 4, 1000, 0);
                m.place(i, others[i], 4 * i, 0, false);
            }
            due("just the greatest limit in front", m.over(0), 2);
            due("front", m.axle(0, 0, 0), 100000);
            heavy(m, 1, 1, 1, 0);
            m.place(3, 39, 0, 0, false);
            due("a half beyond in front", m.over(0), 3);
        }

        private static void side() {
            says("away from the TRUCK's by more than SIDE hundredths of half its width");
            // truck's width, box's width, y, side, over
            int[][] rows = {{4, 2, 0, 50, 0}, {4, 2, 0, 49, 4}, {4, 2, 2, 50, 0}, {4, 2, 2, 49, 4}, {4, 2, 1, 0, 0}, {4, 4, 0, 0, 0}, {12, 1, 0, 92, 0},
                {12, 1, 0, 91, 4}, {12, 1, 11, 92, 0}, {12, 1, 11, 91, 4}, {12, 1, 0, 100, 0}, {3, 1, 1, 0, 0}, {3, 1, 0, 67, 0}, {3, 1, 0, 66, 4},
                {3, 2, 0, 33, 4}, {3, 2, 0, 34, 0}, {1, 1, 0, 0, 0}, {2, 1, 0, 50, 0}, {2, 1, 1, 49, 4}};
            for (int[] r : rows) {
                BoxNest n = nest(10, r[0], 1, 70);
                n.box(2, r[1], 1, 1000, 0, 0, false, 0);
                n.place(0, 4, r[2], 0, false);
                n.side(r[3]);
                due("over of " + Arrays.toString(r), n.over(0), r[4]);
            }
            BoxNest n = nest(10, 4, 1, 70);
            n.side(0);
            n.box(2, 1, 1, 3, 0, 2, false, 0);
            n.box(2, 1, 1, 9, 0, 1, false, 0);
            n.place(0, 4, 0, 0, false);
            n.place(1, 4, 2, 0, false);
            due("3 at 1.5 on one side and 9 at 0.5 on the other", n.over(0), 0);
            due("3 alone", n.over(2), 4);

            says("(Nothing in: 0.)");
            n.axles(39, 40, 0, 0);
            due("all out", n.over(3), 0);
            due("all out at the last", n.over(6), 0);
            n.clear();
            for (int d = 0; d <= 6; d++) {
                due("over(" + d + ")", n.over(d), 0);
                due("axle(0, " + d + ", 0)", n.axle(0, d, 0), 0);
                due("axle(0, " + d + ", 1)", n.axle(0, d, 1), 1);
            }
            due("fit", n.fit(), NONE);
        }

        private static void answers() {
            says(15, "what 0: above (it may be below 0), 1: below (1 or more); RANGE (-2000000000): no such.");
            int[][] bad = {{-1, 0, 0}, {2, 0, 0}, {0, -1, 0}, {0, 7, 0}, {0, 0, -1}, {0, 0, 2}, {LEAST, 0, 0}, {MOST, 0, 0}, {0, LEAST, 0},
                {0, MOST, 0}, {0, 0, LEAST}, {0, 0, MOST}, {1, 7, 1}, {1, -1, 1}};
            for (int[] b : bad) {
                unmoved("axle" + Arrays.toString(b), BoxNestEdges::laden, n -> n.axle(b[0], b[1], b[2]), NO_AXLE);
            }
            unmoved("the last drop", BoxNestEdges::laden, n -> n.axle(1, 6, 1), 1);

            says(16, "OVER at drop d, bits; RANGE.");
            for (int d : new int[] {-1, 7, LEAST, MOST}) {
                unmoved("over(" + d + ")", BoxNestEdges::laden, n -> n.over(d), RANGE);
            }
            unmoved("the last drop", BoxNestEdges::laden, n -> n.over(6), 0);

            says("FIT: OVER is 0 at each drop from 0 to 6.");
            BoxNest n = new BoxNest();
            n.side(0);
            for (int d = 0; d <= 5; d++) {
                n.box(2, 4, 1, 1, 0, d, false, 0);
                n.place(d, 4, 0, 0, false);
                due("in the middle of all, unloaded at " + d, n.fit(), NONE);
                n.take(d);
            }

            says(17, "NONE if it is FIT, else the first drop at which it is not.");
            n.place(0, 4, 0, 0, false);
            n.axles(2, 8, 0, 0);
            due("at once", n.fit(), 0);
            n.clear();
            n.axles(2, 8, 100000, 100000);
            // drop 5 in front of the first axle, held down by one of each drop d behind it
            for (int d = 0; d <= 4; d++) {
                n.place(5, 0, 0, 0, false);
                due("together with " + d, n.place(d, 6, 0, 0, false), 1);
                due("not any more when " + d + " is out", n.fit(), d + 1);
                n.clear();
            }
        }
    }

    // ---- corners: Terms IV, promises 9 and 12

    private static final class Corners {
        static void all() {
            corners();
            order();
            laws();
            setAnswers();
            lists();
            best();
            bestAnswers();
        }

        private static void corners() {
            says("CORNERS: all x, y, z of which each is 0 or an end (in its direction) of a PLACED one.");
            BoxNest n = nest(4, 3, 2, 70);
            box(n, 2, 3, 2);
            box(n, 2, 1, 1);
            box(n, 2, 2, 2);
            box(n, 2, 1, 1);
            due("each 0", n.set(0), 1);
            dueAll("each 0", placeOf(n, 0), 0, 0, 0, 0);
            due("x an end", n.set(1), 1);
            dueAll("x of 0", placeOf(n, 1), 2, 0, 0, 0);
            due("x and y are ends", n.set(2), 1);
            dueAll("x of 0, y of 1", placeOf(n, 2), 2, 1, 0, 0);
            due("x and z are ends", n.set(3), 1);
            dueAll("x of 0, z of 1", placeOf(n, 3), 2, 0, 1, 0);

            // 0 bears nothing, and between 0 and 1 is a gap: nothing is wrong right above 1 alone, at 3, where 1 begins
            BoxNest m = nest(6, 1, 2, 70);
            heavy(m, 2, 1, 1, 0);
            heavy(m, 2, 1, 1, 100);
            heavy(m, 2, 1, 2, 0);
            heavy(m, 1, 1, 1, 0);
            m.place(0, 0, 0, 0, false);
            m.place(1, 3, 0, 0, false);
            due("nothing is wrong there", m.wrong(2, 3, 0, 1, false), 0);
            due("but no end is there", m.set(2), NONE);
            m.place(3, 2, 0, 0, false);
            due("now one is", m.set(2), 1);
            dueAll("there", placeOf(m, 2), 3, 0, 1, 0);

            // the same, and 3 is an end, but of width
            BoxNest k = nest(6, 3, 2, 70);
            heavy(k, 2, 3, 1, 0);
            heavy(k, 2, 3, 1, 100);
            heavy(k, 2, 3, 1, 0);
            k.place(0, 0, 0, 0, false);
            k.place(1, 3, 0, 0, false);
            due("nothing is wrong there", k.wrong(2, 3, 0, 1, false), 0);
            due("no length ends there", k.set(2), NONE);
        }

        private static void order() {
            says("at the first CORNER by z, then x, then y, not turned ahead of turned (if it may and its base is no square)");
            BoxNest n = nest(4, 4, 3, 0);
            box(n, 1, 1, 1);
            box(n, 1, 1, 1);
            n.place(0, 0, 0, 0, false);
            n.set(1);
            dueAll("y 1 with x 0 ahead of x 1 with y 0", placeOf(n, 1), 0, 1, 0, 0);
            BoxNest m = nest(2, 1, 3, 0);
            box(m, 1, 1, 1);
            box(m, 1, 1, 1);
            m.place(0, 0, 0, 0, false);
            m.set(1);
            dueAll("x 1 with z 0 ahead of z 1 with x 0", placeOf(m, 1), 1, 0, 0, 0);
            BoxNest k = nest(4, 4, 1, 0);
            k.box(3, 1, 1, 1, 0, 0, true, 0);
            k.set(0);
            dueAll("not turned where both are right", placeOf(k, 0), 0, 0, 0, 0);
            BoxNest j = nest(2, 4, 1, 0);
            j.box(3, 1, 1, 1, 0, 0, true, 0);
            j.box(3, 1, 1, 1, 0, 0, false, 0);
            due("it may not turn", j.set(1), NONE);
            due("it may", j.set(0), 1);
            dueAll("turned where that alone is right", placeOf(j, 0), 0, 0, 0, 1);
            // turned at an early corner goes ahead of not turned at a later one
            BoxNest i = nest(6, 3, 1, 0);
            box(i, 3, 1, 1);
            i.box(1, 3, 1, 1, 0, 1, true, 0);
            i.place(0, 0, 0, 0, false);
            i.set(1);
            dueAll("turned at 0, 1, not as it is at 3, 0", placeOf(i, 1), 0, 1, 0, 1);
            BoxNest h = nest(3, 3, 1, 0);
            h.box(3, 3, 1, 1, 0, 0, true, 0);
            h.set(0);
            dueAll("a square is not turned", placeOf(h, 0), 0, 0, 0, 0);
            BoxNest tight = nest(3, 3, 1, 0);
            tight.box(4, 2, 1, 1, 0, 0, true, 0);
            tight.box(2, 4, 1, 1, 0, 0, true, 0);
            tight.box(2, 1, 1, 1, 0, 0, true, 0);
            tight.box(3, 2, 1, 1, 0, 0, true, 0);
            due("too long as it is, too wide turned", tight.set(0), NONE);
            due("too wide as it is, too long turned", tight.set(1), NONE);
            tight.place(2, 0, 0, 0, true);
            due("at 0, 2 too wide, at 1, 0 too long, turned at 1, 0", tight.set(3), 1);
            dueAll("turned", placeOf(tight, 3), 1, 0, 0, 1);
            BoxNest small = nest(2, 2, 1, 0);
            small.box(3, 3, 1, 1, 0, 0, true, 0);
            due("a square that is too large either way", small.set(0), NONE);
        }

        private static void laws() {
            says("at which nothing is WRONG");
            BoxNest n = nest(4, 1, 2, 70);
            heavy(n, 2, 1, 1, 0);
            heavy(n, 2, 1, 1, 5);
            heavy(n, 2, 1, 5, 0);
            heavy(n, 2, 1, 1, 0);
            n.set(0);
            n.set(1);
            due("8 at the first, 0 at the next", n.set(2), 1);
            dueAll("on the one that bears it", placeOf(n, 2), 2, 0, 1, 0);
            due("8 at all", n.set(3), NONE);
            BoxNest m = nest(4, 1, 3, 70);
            box(m, 1, 1, 1);
            box(m, 3, 1, 2);
            box(m, 2, 1, 1);
            m.set(0);
            m.set(1);
            due("2 at the first, 4 at the next", m.set(2), 1);
            dueAll("where all of it is held", placeOf(m, 2), 1, 0, 2, 0);
            BoxNest k = nest(4, 2, 1, 70);
            dropped(k, 2, 1, 1, 0);
            dropped(k, 2, 1, 1, 1);
            dropped(k, 2, 1, 1, 2);
            k.set(0);
            due("a later one beside", k.set(1), 1);
            dueAll("beside", placeOf(k, 1), 0, 1, 0, 0);
            due("16 in front of both", k.set(2), NONE);
        }

        private static void setAnswers() {
            says(9, "A BOX is SET: 1; NONE: there is no such CORNER; RANGE; STATE likewise.");
            for (int b : new int[] {-1, 4, 20, 31, 32, LEAST, MOST}) {
                unmoved("set(" + b + ")", BoxNestEdges::laden, n -> n.set(b), RANGE);
            }
            unmoved("too long", BoxNestEdges::laden, n -> n.set(3), NONE);
            unmoved("placed", BoxNestEdges::laden, n -> n.set(0), STATE);
            BoxNest n = nest(2, 2, 2, 0);
            box(n, 2, 2, 2);
            box(n, 1, 1, 1);
            due("the truck is filled", n.set(0), 1);
            due("no room for a cell", n.set(1), NONE);
            due("taken out", n.take(0), 1);
            due("room again", n.set(1), 1);
            due("no room for all", n.set(0), NONE);
            BoxNest m = nest(3, 3, 3, 100);
            for (int i = 0; i < 20; i++) {
                box(m, 1, 1, 1);
                due("cell " + i, m.set(i), 1);
                dueAll("place of " + i, placeOf(m, i), i % 9 / 3, i % 3, i / 9, 0);
            }
        }

        private static void lists() {
            says("each in order is SET, if there is such a CORNER; else left out");
            BoxNest n = nest(4, 1, 1, 70);
            box(n, 3, 1, 1);
            box(n, 2, 1, 1);
            box(n, 1, 1, 1);
            box(n, 9, 1, 1);
            due("0 with 2, or 1 with 2; 3 finds no corner at all", n.best(15), 2);
            dueAll("1 and 2, as they end at 3", new int[] {n.about(0, 8), n.about(1, 8), n.about(2, 8), n.about(3, 8)}, 0, 1, 1, 0);
            due("their end", n.count(3), 3);
        }

        private static void best() {
            says("that with which most are PLACED");
            BoxNest n = nest(3, 3, 1, 70);
            box(n, 1, 1, 1);
            box(n, 2, 2, 1);
            box(n, 3, 1, 1);
            due("0, 1, 2 places two, 1, 2, 0 all", n.best(7), 3);
            dueAll("0", placeOf(n, 0), 2, 0, 0, 0);
            dueAll("1", placeOf(n, 1), 0, 0, 0, 0);
            dueAll("2", placeOf(n, 2), 0, 2, 0, 0);

            says("then which reaches least far (the greatest end of length of all PLACED)");
            BoxNest m = nest(6, 1, 1, 70);
            box(m, 5, 1, 1);
            box(m, 4, 1, 1);
            due("one of both", m.best(3), 1);
            due("the shorter one", m.about(1, 8), 1);
            // one that is in reaches to the end already: then all orders reach as far, and the least row is due
            BoxNest k = nest(6, 2, 1, 70);
            box(k, 5, 1, 1);
            box(k, 4, 1, 1);
            box(k, 1, 1, 1);
            k.place(2, 5, 1, 0, false);
            box(k, 6, 1, 1);
            k.place(3, 0, 0, 0, false);
            due("one of both", k.best(3), 1);
            due("the lower number, as the end is 6 anyhow", k.about(0, 8), 1);

            says("then the least row (their numbers in the order)");
            BoxNest j = nest(6, 2, 1, 70);
            box(j, 2, 1, 1);
            box(j, 2, 1, 1);
            box(j, 2, 1, 1);
            due("all alike", j.best(7), 3);
            dueAll("0", placeOf(j, 0), 0, 0, 0, 0);
            dueAll("1", placeOf(j, 1), 0, 1, 0, 0);
            dueAll("2", placeOf(j, 2), 2, 0, 0, 0);
            j.clear();
            due("without 0", j.best(6), 2);
            dueAll("1", placeOf(j, 1), 0, 0, 0, 0);
            dueAll("2", placeOf(j, 2), 0, 1, 0, 0);
            // 0 fits nowhere, so the rows 0, 1, 2 and 1, 0, 2 and 1, 2, 0 place alike: 1 ahead of 2 in the least of all
            BoxNest i = nest(6, 2, 1, 70);
            box(i, 7, 1, 1);
            box(i, 2, 1, 1);
            box(i, 2, 1, 1);
            due("two of three", i.best(7), 2);
            dueAll("1", placeOf(i, 1), 0, 0, 0, 0);
            dueAll("2", placeOf(i, 2), 0, 1, 0, 0);
        }

        private static void bestAnswers() {
            says("BEST of a set of at most 5 BOXES not PLACED");
            BoxNest n = nest(10, 1, 1, 70);
            for (int i = 0; i < 6; i++) {
                box(n, 1, 1, 1);
            }
            due("six", n.best(63), FULL);
            due("five", n.best(62), 5);
            due("none was put in by the six", n.about(0, 8), 0);
            due("one more", n.best(1), 1);
            dueAll("behind them", placeOf(n, 0), 5, 0, 0, 0);

            says("They are PLACED so then.");
            for (int b = 1; b <= 5; b++) {
                due("placed " + b, n.about(b, 8), 1);
                due("at " + b, n.about(b, 9), b - 1);
            }

            says(12, "how many are PLACED of it; RANGE: no such set (1 or more BOXES); STATE: one is PLACED; FULL: more than 5.");
            for (int set : new int[] {0, -1, LEAST, MOST, 16, 20, 17, 1 << 20, 1 << 30, -8}) {
                unmoved("best(" + set + ")", BoxNestEdges::laden, m -> m.best(set), RANGE);
            }
            for (int set : new int[] {1, 2, 3, 5, 14, 15}) {
                unmoved("best(" + set + ")", BoxNestEdges::laden, m -> m.best(set), STATE);
            }
            unmoved("none finds a corner", BoxNestEdges::laden, m -> m.best(8), 0);
            unmoved("six", BoxNestEdges::filled, m -> m.best(63 << 4), FULL);
            unmoved("sixteen", BoxNestEdges::filled, m -> m.best(65535 << 4), FULL);
            unmoved("seven, one of them placed", BoxNestEdges::filled, m -> m.best((63 << 4) + 1), STATE);
            unmoved("all, two of them placed", BoxNestEdges::filled, m -> m.best((1 << 20) - 1), STATE);
            unmoved("one too high beside all", BoxNestEdges::filled, m -> m.best((1 << 21) - 1), RANGE);
            unmoved("one too high", BoxNestEdges::filled, m -> m.best(1 << 20), RANGE);
            due("the last five", filled().best(31 << 15), 5);
            due("the last one", filled().best(1 << 19), 1);
        }
    }

    // ---- cuts: Terms V, promises 18 and 19

    private static final class Cuts {
        static void all() {
            blocks();
            pieces();
            patterns();
            answers();
        }

        private static void blocks() {
            says("CUT of a block (1 .. 16 each way)");
            BoxNest n = new BoxNest();
            worthy(n, 1, 1, 1, false, 1000);
            due("the least", n.cut(1, 1, 1), 1000);
            due("the greatest", n.cut(16, 16, 16), 4096000);
            dueAll("long, wide, high", new int[] {n.cut(16, 1, 1), n.cut(1, 16, 1), n.cut(1, 1, 16)}, 16000, 16000, 16000);
            int[][] bad = {{0, 1, 1}, {17, 1, 1}, {1, 0, 1}, {1, 17, 1}, {1, 1, 0}, {1, 1, 17}, {-1, 1, 1}, {LEAST, 1, 1}, {MOST, 1, 1},
                {1, LEAST, 1}, {1, MOST, 1}, {1, 1, LEAST}, {1, 1, MOST}};
            for (int[] b : bad) {
                due("cut" + Arrays.toString(b), n.cut(b[0], b[1], b[2]), RANGE);
            }

            for (int size = 1; size <= 16; size++) {
                for (int direction = 0; direction < 3; direction++) {
                    BoxNest m = new BoxNest();
                    worthy(m, 1, 1, 1, false, 1);
                    due("a row of " + size, m.cut(direction == 0 ? size : 1, direction == 1 ? size : 1, direction == 2 ? size : 1), size);
                    due("its last cell", m.piece(size - 1, direction + 1), size - 1);
                    due("none behind it", m.piece(size, 0), NONE);
                }
            }

            says(18, "The most worth of a CUT of a block; RANGE.");
            for (int[] b : bad) {
                unmoved("cut" + Arrays.toString(b), BoxNestEdges::laden, m -> m.cut(b[0], b[1], b[2]), RANGE);
            }
            BoxNest m = new BoxNest();
            due("without boxes", m.cut(16, 16, 16), 0);
            worthy(m, 12, 12, 12, false, 7);
            due("with one", m.cut(16, 16, 16), 7);
            due("too small in length", m.cut(11, 16, 16), 0);
            due("too small in width", m.cut(16, 11, 16), 0);
            due("too small in height", m.cut(16, 16, 11), 0);
            worthy(m, 4, 12, 12, true, 1);
            // 12 x 12 x 12 of 16 x 16 x 16 leaves 4 x 16 x 12 beside it and 12 x 4 x 12: one of the other in each
            due("with both", m.cut(16, 16, 16), 9);
        }

        private static void pieces() {
            says("(as many of each as wanted)");
            BoxNest n = new BoxNest();
            worthy(n, 2, 2, 2, false, 3);
            due("a hundred and more of one", n.cut(16, 16, 16), 3 * 512);
            n.set(0);
            due("though it is placed", n.cut(4, 4, 4), 24);

            says("as they are or TURNED (if they may), never tipped");
            BoxNest m = new BoxNest();
            worthy(m, 3, 2, 1, false, 10);
            dueAll("as it is only", new int[] {m.cut(3, 2, 1), m.cut(2, 3, 1), m.cut(3, 1, 2), m.cut(1, 2, 3), m.cut(2, 1, 3), m.cut(1, 3, 2)},
                    10, 0, 0, 0, 0, 0);
            worthy(m, 3, 2, 1, true, 9);
            dueAll("turned too", new int[] {m.cut(3, 2, 1), m.cut(2, 3, 1), m.cut(3, 1, 2), m.cut(1, 2, 3), m.cut(2, 1, 3), m.cut(1, 3, 2)},
                    10, 9, 0, 0, 0, 0);

            says("A block is a piece, if it has just its sizes; or is cut through along length, width or height in two blocks; or is left over"
                    + " (worth 0).");
            BoxNest k = new BoxNest();
            worthy(k, 3, 2, 2, false, 10);
            dueAll("one more each way is left over", new int[] {k.cut(3, 2, 2), k.cut(4, 2, 2), k.cut(3, 3, 2), k.cut(3, 2, 3), k.cut(5, 3, 3)},
                    10, 10, 10, 10, 10);
            dueAll("one less each way is all left over", new int[] {k.cut(2, 2, 2), k.cut(3, 1, 2), k.cut(3, 2, 1)}, 0, 0, 0);
            dueAll("twice each way", new int[] {k.cut(6, 2, 2), k.cut(3, 4, 2), k.cut(3, 2, 4), k.cut(6, 4, 4)}, 20, 20, 20, 80);
            BoxNest j = new BoxNest();
            worthy(j, 3, 2, 1, true, 10);
            due("four around a middle cell can't be cut through", j.cut(5, 5, 1), 30);
            BoxNest i = new BoxNest();
            worthy(i, 2, 2, 2, false, 7);
            worthy(i, 1, 1, 1, false, 1);
            due("cut up it is worth more", i.cut(2, 2, 2), 8);
        }

        private static void patterns() {
            says("nothing, if that is 0");
            BoxNest n = new BoxNest();
            worthy(n, 2, 2, 2, false, 0);
            due("a piece without worth", n.cut(2, 2, 2), 0);
            due("isn't laid", n.piece(0, 0), NONE);
            worthy(n, 1, 1, 1, false, 5);
            worthy(n, 3, 1, 1, false, 0);
            due("a worthy one and a worthless one", n.cut(3, 1, 1), 15);
            dueAll("only the worthy one", new int[] {n.piece(0, 0), n.piece(1, 0), n.piece(2, 0), n.piece(3, 0)}, 1, 1, 1, NONE);

            says("else a piece with that worth (the lowest number)");
            BoxNest m = new BoxNest();
            worthy(m, 2, 2, 1, false, 3);
            worthy(m, 1, 1, 1, false, 1);
            worthy(m, 2, 2, 1, false, 4);
            worthy(m, 2, 2, 1, false, 4);
            due("the same worth as in four cells", m.cut(2, 2, 1), 4);
            dueAll("the piece, the lower one", piece(m, 0), 2, 0, 0, 0, 0);
            due("no more", m.piece(1, 0), NONE);
            BoxNest turned = new BoxNest();
            worthy(turned, 2, 3, 1, true, 5);
            worthy(turned, 3, 2, 1, false, 5);
            due("both are right", turned.cut(3, 2, 1), 5);
            dueAll("the lower one, though turned", piece(turned, 0), 0, 0, 0, 0, 1);
            BoxNest square = new BoxNest();
            worthy(square, 2, 2, 1, true, 5);
            due("a square", square.cut(2, 2, 1), 5);
            dueAll("isn't turned", piece(square, 0), 0, 0, 0, 0, 0);

            says("else the first cut with which it is had: by length, width, height, by the least part ahead: what comes of its two blocks,"
                    + " the one ahead first");
            BoxNest k = new BoxNest();
            worthy(k, 1, 1, 1, false, 1);
            k.cut(2, 2, 2);
            for (int i = 0; i < 8; i++) {
                dueAll("cell " + i, piece(k, i), 0, i / 4, i / 2 % 2, i % 2, 0);
            }
            due("no more", k.piece(8, 0), NONE);
            // 2 x 1 x 1 alone: of length 3 the least part ahead is left over
            BoxNest j = new BoxNest();
            worthy(j, 2, 1, 1, false, 1);
            j.cut(3, 1, 1);
            dueAll("behind the least part", piece(j, 0), 0, 1, 0, 0, 0);
            j.cut(5, 1, 1);
            dueAll("behind the least part", piece(j, 0), 0, 1, 0, 0, 0);
            dueAll("and next to it", piece(j, 1), 0, 3, 0, 0, 0);
            BoxNest wide = new BoxNest();
            worthy(wide, 1, 2, 1, false, 1);
            wide.cut(1, 3, 1);
            dueAll("by width", piece(wide, 0), 0, 0, 1, 0, 0);
            BoxNest high = new BoxNest();
            worthy(high, 1, 1, 2, false, 1);
            high.cut(1, 1, 3);
            dueAll("by height", piece(high, 0), 0, 0, 0, 1, 0);
            // 1 x 2 and 2 x 1 with the same worth: 2 x 2 is cut by length first, so 1 x 2 twice
            BoxNest both = new BoxNest();
            worthy(both, 2, 1, 1, false, 3);
            worthy(both, 1, 2, 1, false, 3);
            worthy(both, 2, 2, 2, false, 1);
            due("both", both.cut(2, 2, 1), 6);
            dueAll("by length", piece(both, 0), 1, 0, 0, 0, 0);
            dueAll("by length", piece(both, 1), 1, 1, 0, 0, 0);
            // by width ahead of height: slabs 2 x 1 x 2 and 2 x 2 x 1 of 2 x 2 x 2
            BoxNest slabs = new BoxNest();
            worthy(slabs, 2, 2, 1, false, 4);
            worthy(slabs, 2, 1, 2, false, 4);
            due("slabs", slabs.cut(2, 2, 2), 8);
            dueAll("by width", piece(slabs, 0), 1, 0, 0, 0, 0);
            dueAll("by width", piece(slabs, 1), 1, 0, 1, 0, 0);
            due("no more", slabs.piece(2, 0), NONE);
            // the least part ahead that has it: 5 is 2 and 3, not 1 and 4
            BoxNest parts = new BoxNest();
            worthy(parts, 2, 1, 1, false, 4);
            worthy(parts, 3, 1, 1, false, 7);
            due("2 and 3", parts.cut(5, 1, 1), 11);
            dueAll("2 ahead", piece(parts, 0), 0, 0, 0, 0, 0);
            dueAll("3 behind", piece(parts, 1), 1, 2, 0, 0, 0);
        }

        private static int[] piece(BoxNest n, int i) {
            return new int[] {n.piece(i, 0), n.piece(i, 1), n.piece(i, 2), n.piece(i, 3), n.piece(i, 4)};
        }

        private static void answers() {
            says(19, "of the latest cut() that was not RANGE");
            BoxNest n = new BoxNest();
            worthy(n, 1, 1, 1, false, 1);
            due("no cut yet", n.piece(0, 0), NONE);
            n.cut(0, 1, 1);
            due("none but a refused cut", n.piece(0, 0), NONE);
            n.cut(2, 1, 1);
            n.cut(17, 1, 1);
            dueAll("the cut ahead of the refused one", new int[] {n.piece(1, 1), n.piece(2, 1)}, 1, NONE);
            n.cut(1, 3, 1);
            dueAll("the next cut", new int[] {n.piece(1, 1), n.piece(2, 2), n.piece(3, 2)}, 0, 2, NONE);
            n.cut(1, 1, 1);
            dueAll("a smaller one", new int[] {n.piece(0, 0), n.piece(1, 0)}, 0, NONE);

            says(19, "as long as no BOX came since");
            n.set(0);
            n.take(0);
            n.truck(3, 3, 3);
            n.trucks(1);
            due("other calls do nothing to it", n.piece(0, 0), 0);
            due("a refused box", worthy(n, 1, 1, 13, false, 1), RANGE);
            due("didn't come", n.piece(0, 0), 0);
            due("a box", worthy(n, 1, 1, 1, false, 1), 1);
            due("came", n.piece(0, 0), NONE);
            n.cut(1, 1, 17);
            due("a refused cut brings none", n.piece(0, 0), NONE);
            n.cut(1, 1, 1);
            due("a new cut does", n.piece(0, 0), 0);
            BoxNest m = filled();
            int first = m.piece(0, 0);
            due("a box too many", box(m, 1, 1, 1), FULL);
            due("didn't come", m.piece(0, 0), first);

            says(19, "what 0: BOX, 1, 2, 3: x, y, z in the block, 4: 1 if it is turned. NONE when there is none such.");
            for (int[] b : new int[][] {{-1, 0}, {4, 0}, {MOST, 0}, {LEAST, 0}, {0, -1}, {0, 5}, {0, LEAST}, {0, MOST}, {4, 5}}) {
                unmoved("piece" + Arrays.toString(b), BoxNestEdges::laden, k -> k.piece(b[0], b[1]), NONE);
            }
            unmoved("the last piece", BoxNestEdges::laden, k -> k.piece(3, 0), 2);
            BoxNest k = new BoxNest();
            worthy(k, 1, 1, 1, false, 1);
            k.cut(16, 16, 16);
            dueAll("the last of all cells", piece(k, 4095), 0, 15, 15, 15, 0);
            dueAll("none behind it", piece(k, 4096), NONE, NONE, NONE, NONE, NONE);
        }
    }

    // ---- trucks: Terms V, promises 20 and 21

    private static final class Trucks {
        static void all() {
            fitting();
            volumes();
            apart();
            turned();
            answers();
        }

        private static void fitting() {
            says("(each must be one that fits in the empty TRUCK by its sizes)");
            // box, may turn, and the answer in a truck of 6 x 4 x 3
            int[][] rows = {{6, 4, 3, 0, 1}, {7, 4, 3, 0, STATE}, {6, 5, 3, 0, STATE}, {6, 4, 4, 0, STATE}, {4, 6, 3, 0, STATE}, {4, 6, 3, 1, 1},
                {4, 7, 3, 1, STATE}, {5, 6, 3, 1, STATE}, {7, 4, 3, 1, STATE}, {1, 1, 4, 1, STATE}, {3, 1, 6, 1, STATE}, {1, 1, 1, 0, 1}};
            for (int[] r : rows) {
                BoxNest n = nest(6, 4, 3, 70);
                n.box(r[0], r[1], r[2], 1, 0, 0, r[3] == 1, 0);
                due("trucks for " + Arrays.toString(r), n.trucks(1), r[4]);
                worthy(n, 1, 1, 1, false, 0);
                due("with a cell beside " + Arrays.toString(r), n.trucks(3), r[4] == STATE ? STATE : r[0] * r[1] * r[2] == 72 ? 2 : 1);
                due("the cell alone", n.trucks(2), 1);
            }
            BoxNest n = nest(6, 4, 3, 70);
            worthy(n, 6, 4, 3, false, 0);
            worthy(n, 6, 4, 3, false, 0);
            n.set(0);
            due("in the empty truck, whatever is in", n.trucks(3), 2);
        }

        private static void volumes() {
            says("their volumes over the TRUCK's (rounded up)");
            BoxNest n = nest(4, 3, 2, 70);
            for (int i = 0; i < 4; i++) {
                worthy(n, 4, 3, 1, false, 0);
            }
            worthy(n, 1, 1, 1, false, 0);
            int[][] rows = {{1, 1}, {3, 1}, {16 + 3, 2}, {7, 2}, {15, 2}, {16 + 15, 3}, {16, 1}};
            for (int[] r : rows) {
                due("trucks(" + r[0] + ")", n.trucks(r[0]), r[1]);
                due("by volumes of " + r[0], n.shown(0), r[1]);
            }
            BoxNest least = nest(1, 1, 1, 70);
            for (int i = 0; i < 20; i++) {
                worthy(least, 1, 1, 1, false, 0);
                due("cells for the least truck", least.trucks((1 << (i + 1)) - 1), i + 1);
                due("by volumes", least.shown(0), i + 1);
            }
            BoxNest most = nest(12, 12, 12, 70);
            BoxNest cells = nest(40, 12, 12, 70);
            for (int i = 0; i < 20; i++) {
                worthy(most, 12, 12, 12, false, 0);
                worthy(cells, 1, 1, 1, false, 0);
            }
            due("twenty of the greatest", most.trucks((1 << 20) - 1), 20);
            due("by volumes", most.shown(0), 20);
            due("by big ones", most.shown(1), 20);
            due("all of them", most.shown(2), (1 << 20) - 1);
            due("twenty of the least in the greatest", cells.trucks((1 << 20) - 1), 1);
            due("by big ones", cells.shown(1), 1);
            due("the least set", cells.shown(2), 1);
        }

        private static void apart() {
            says("their lengths together are above the TRUCK's, and their widths, and their heights");
            // the second one's sizes beside 5 x 3 x 2 in a truck of 8 x 5 x 3
            int[][] rows = {{4, 3, 2, 2}, {3, 3, 2, 1}, {4, 2, 2, 1}, {4, 3, 1, 1}, {8, 5, 1, 1}, {8, 2, 3, 1}, {3, 5, 3, 1}, {8, 5, 3, 2}};
            for (int[] r : rows) {
                BoxNest n = nest(8, 5, 3, 70);
                worthy(n, 5, 3, 2, false, 0);
                worthy(n, r[0], r[1], r[2], false, 0);
                n.trucks(3);
                due("big ones with " + Arrays.toString(r), n.shown(1), r[3]);
                due("their set with " + Arrays.toString(r), n.shown(2), r[3] == 2 ? 3 : 1);
            }

            says("the most of which each two are APART");
            // 0 with 1, 1 with 2, but 0 not with 2: lengths 4, 5, 4 of 8
            BoxNest n = nest(8, 1, 1, 70);
            worthy(n, 4, 1, 1, false, 0);
            worthy(n, 5, 1, 1, false, 0);
            worthy(n, 4, 1, 1, false, 0);
            worthy(n, 3, 1, 1, false, 0);
            due("trucks", n.trucks(7), 2);
            due("two of three", n.shown(1), 2);
            due("by volumes", n.shown(0), 2);
            due("alone", n.trucks(8), 1);
            due("one is the most", n.shown(1), 1);
            due("itself", n.shown(2), 8);
            due("3 goes with each", n.trucks(10), 1);

            says("the greater of");
            BoxNest m = nest(12, 12, 12, 70);
            for (int i = 0; i < 20; i++) {
                worthy(m, 7, 7, 7, false, 0);
            }
            due("big ones are more", m.trucks((1 << 20) - 1), 20);
            due("by volumes", m.shown(0), 4);
            due("by big ones", m.shown(1), 20);
            BoxNest k = nest(12, 1, 1, 70);
            for (int i = 0; i < 3; i++) {
                worthy(k, 6, 1, 1, false, 0);
            }
            due("volumes are more", k.trucks(7), 2);
            due("by volumes", k.shown(0), 2);
            due("by big ones", k.shown(1), 1);
        }

        private static void turned() {
            says("whichever way both are turned (if they may, each so that it fits in the empty TRUCK)");
            // two alike: their sizes, may turn, truck, big ones
            int[][] rows = {{5, 4, 0, 8, 6, 2}, {5, 3, 0, 8, 6, 1}, {5, 3, 0, 8, 5, 2}, {5, 3, 1, 8, 5, 1}, {6, 4, 1, 7, 7, 2}, {6, 3, 1, 7, 7, 1},
                {6, 4, 1, 8, 7, 1}, {6, 4, 1, 7, 8, 1}, {6, 4, 1, 8, 5, 2}, {6, 4, 1, 5, 8, 2}, {4, 6, 1, 8, 5, 2}, {4, 6, 1, 5, 8, 2},
                {6, 4, 1, 8, 6, 1}, {4, 6, 1, 7, 8, 1}, {4, 6, 1, 8, 7, 1}, {4, 6, 1, 7, 7, 2}};
            for (int[] r : rows) {
                BoxNest n = nest(r[3], r[4], 1, 70);
                worthy(n, r[0], r[1], 1, r[2] == 1, 0);
                worthy(n, r[0], r[1], 1, r[2] == 1, 0);
                n.trucks(3);
                due("big ones of " + Arrays.toString(r), n.shown(1), r[5]);
            }
        }

        private static void answers() {
            says(20, "TRUCKS at least for a set: how many; RANGE: no such set (1 or more); STATE: one of it doesn't fit.");
            for (int set : new int[] {0, -1, LEAST, MOST, 16, 20, 24, 1 << 20, 1 << 30, -8}) {
                unmoved("trucks(" + set + ")", BoxNestEdges::laden, n -> n.trucks(set), RANGE);
            }
            for (int set : new int[] {8, 9, 15}) {
                unmoved("trucks(" + set + ")", BoxNestEdges::laden, n -> n.trucks(set), STATE);
            }
            unmoved("all with one too long", BoxNestEdges::filled, n -> n.trucks((1 << 20) - 1), STATE);
            unmoved("one too high beside all", BoxNestEdges::filled, n -> n.trucks((1 << 21) - 1), RANGE);
            due("all but the one that is too long", filled().trucks((1 << 20) - 1 - 8), 1);
            due("the last one", filled().trucks(1 << 19), 1);

            says(21, "Of the latest trucks() that told a number");
            BoxNest n = new BoxNest();
            worthy(n, 10, 4, 4, false, 0);
            worthy(n, 6, 3, 3, false, 0);
            worthy(n, 11, 1, 1, false, 0);
            due("none yet", n.shown(0), NONE);
            n.trucks(0);
            n.trucks(4);
            dueAll("none but refused ones", shown(n), NONE, NONE, NONE);
            due("both", n.trucks(3), 2);
            dueAll("shown", shown(n), 2, 2, 3);
            n.trucks(0);
            n.trucks(8);
            n.trucks(6);
            dueAll("still", shown(n), 2, 2, 3);
            n.truck(40, 12, 12);
            worthy(n, 1, 1, 1, false, 0);
            n.set(1);
            dueAll("whatever came since", shown(n), 2, 2, 3);
            due("the second alone", n.trucks(2), 1);
            dueAll("shown anew", shown(n), 1, 1, 2);
            due("both in the greater truck", n.trucks(3), 1);
            dueAll("not apart any more", shown(n), 1, 1, 1);

            says(21, "the BIG ones, as bits (of as many the least set)");
            BoxNest m = nest(8, 1, 1, 70);
            worthy(m, 4, 1, 1, false, 0);
            worthy(m, 5, 1, 1, false, 0);
            worthy(m, 4, 1, 1, false, 0);
            worthy(m, 5, 1, 1, false, 0);
            int[][] rows = {{5, 1}, {4, 4}, {7, 3}, {6, 6}, {15, 11}, {14, 14}, {13, 9}, {12, 12}};
            for (int[] r : rows) {
                m.trucks(r[0]);
                due("of " + r[0], m.shown(2), r[1]);
            }

            says(21, "NONE when there is none such.");
            for (int what : new int[] {-1, 3, LEAST, MOST}) {
                unmoved("shown(" + what + ")", BoxNestEdges::laden, k -> k.shown(what), NONE);
            }
        }

        private static int[] shown(BoxNest n) {
            return new int[] {n.shown(0), n.shown(1), n.shown(2)};
        }
    }

    // ---- what is asked: promises 13, 14 and 22

    private static final class Answers {
        static void all() {
            abouts();
            ats();
            counts();
        }

        private static void abouts() {
            says(13, "-9 when there is none such.");
            int[][] bad = {{-1, 0}, {4, 0}, {20, 0}, {32, 0}, {LEAST, 0}, {MOST, 0}, {0, -1}, {0, 15}, {0, LEAST}, {0, MOST}, {-1, -1}, {4, 15}, {4, 8}};
            for (int[] b : bad) {
                unmoved("about" + Arrays.toString(b), BoxNestEdges::laden, n -> n.about(b[0], b[1]), NO_ABOUT);
            }

            says(13, "8: 1 if it is PLACED, 9, 10, 11: x, y, z (NONE), 12: 1 if it is turned (0), 13: LOAD (0), 14: on how many it STANDS"
                    + " (0; on the floor 0)");
            BoxNest n = laden();
            dueAll("one that is out", from8(n, 2), 0, NONE, NONE, NONE, 0, 0, 0);
            dueAll("one on the floor", from8(n, 0), 1, 6, 1, 0, 1, 8, 0);
            dueAll("one on another", from8(n, 1), 1, 7, 1, 1, 0, 0, 1);
            n.wrong(2, 3, 3, 0, true);
            n.place(2, 8, 4, 5, true);
            dueAll("one that was asked about", from8(n, 2), 0, NONE, NONE, NONE, 0, 0, 0);
            n.take(1);
            dueAll("one that was taken out", from8(n, 1), 0, NONE, NONE, NONE, 0, 0, 0);
            n.clear();
            dueAll("one that was turned and is out", from8(n, 0), 0, NONE, NONE, NONE, 0, 0, 0);
            BoxNest m = nest(8, 1, 2, 0);
            for (int i = 0; i < 8; i++) {
                box(m, 1, 1, 1);
                m.place(i, i, 0, 0, false);
            }
            box(m, 8, 1, 1);
            m.place(8, 0, 0, 1, false);
            due("on eight", m.about(8, 14), 8);
            BoxNest air = nest(8, 1, 3, 0);
            box(air, 1, 1, 1);
            air.place(0, 0, 0, 2, false);
            due("in the air on none", air.about(0, 14), 0);
        }

        private static int[] from8(BoxNest n, int b) {
            int[] all = new int[7];
            for (int i = 0; i < 7; i++) {
                all[i] = n.about(b, 8 + i);
            }
            return all;
        }

        private static void ats() {
            says(14, "The BOX that fills the cell whose lowest corner is x, y, z; NONE.");
            int[][] none = {{0, 0, 0}, {5, 1, 0}, {8, 1, 0}, {6, 0, 0}, {6, 4, 0}, {6, 1, 1}, {7, 1, 3}, {-1, 1, 0}, {6, -1, 0}, {6, 1, -1}, {41, 1, 0},
                {LEAST, 1, 0}, {MOST, 1, 0}, {6, LEAST, 0}, {6, MOST, 0}, {6, 1, LEAST}, {6, 1, MOST}, {MOST, MOST, MOST}};
            for (int[] p : none) {
                unmoved("at" + Arrays.toString(p), BoxNestEdges::laden, n -> n.at(p[0], p[1], p[2]), NONE);
            }
            int[][] filled = {{6, 1, 0, 0}, {7, 3, 0, 0}, {7, 1, 1, 1}, {7, 2, 2, 1}};
            for (int[] p : filled) {
                unmoved("at" + Arrays.toString(p), BoxNestEdges::laden, n -> n.at(p[0], p[1], p[2]), p[3]);
            }
            BoxNest n = nest(40, 12, 12, 0);
            box(n, 1, 1, 1);
            n.place(0, 39, 11, 11, false);
            due("the last cell of the greatest truck", n.at(39, 11, 11), 0);
            n.take(0);
            due("empty", n.at(39, 11, 11), NONE);
        }

        private static void counts() {
            says(22, "NONE for others.");
            for (int what : new int[] {-1, 14, LEAST, MOST}) {
                unmoved("count(" + what + ")", BoxNestEdges::laden, n -> n.count(what), NONE);
            }

            says(22, "What 0: BOXES, 1: PLACED, 2: the sum of their weights, 3: the greatest end of length (0), 4: cells filled; 5, 6, 7: the TRUCK's"
                    + " sizes, 8: share, 9, 10: places of AXLES, 11, 12: their limits, 13: SIDE limit.");
            BoxNest n = laden();
            dueAll("told and two in", counts(n), 4, 2, 15, 8, 10, 11, 5, 6, 60, 1, 7, 500, 600, 30);
            n.clear();
            dueAll("none in", counts(n), 4, 0, 0, 0, 0, 11, 5, 6, 60, 1, 7, 500, 600, 30);
            BoxNest m = nest(40, 12, 12, 0);
            for (int i = 0; i < 20; i++) {
                m.box(12, 12, 1, 1000, 20000, 0, false, 0);
                due("place " + i, m.place(i, i < 12 ? 28 : 0, 0, i % 12, false), 1);
            }
            dueAll("all twenty in", Arrays.copyOf(counts(m), 5), 20, 20, 20000, 40, 2880);
        }

        private static int[] counts(BoxNest n) {
            int[] all = new int[14];
            for (int what = 0; what < 14; what++) {
                all[what] = n.count(what);
            }
            return all;
        }
    }
}
