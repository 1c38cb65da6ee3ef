import java.math.BigInteger;
import java.util.ArrayList;
import java.util.HashMap;
import java.util.List;
import java.util.Map;
import java.util.Random;

/**
 * Random runs (from fixed seeds) on BoxNest and on a plain model beside it, which works cell by cell,
 * tries all orders, all cuts and all sets, and shares no idea with the class but the document's words.
 */
public final class BoxNestAgainstPlain {
    private static final int KINDS = 7;
    /** A kind that begins with more on a box than it bears, which only a take can bring about. */
    private static final int LIGHT = 6;
    /** Lengths of three boxes below a long one, its weight, that of one on it, and what the second of the three bears. */
    private static final int[][] BURDENS = {{2, 1, 2, 2, 1, 0}, {2, 1, 2, 7, 1, 1}, {2, 3, 2, 3, 1, 1}, {3, 1, 3, 2, 3, 0}, {3, 1, 3, 4, 1, 0},
        {3, 2, 3, 5, 1, 1}};

    private static int wrong = 0;
    private static int burdened = 0;

    public static void main(String[] args) {
        int runs = args.length > 0 ? Integer.parseInt(args[0]) : 500;
        long calls = 0;
        for (int run = 0; run < runs && wrong < 20; run++) {
            calls += new Run(run).go();
        }
        System.out.println(runs + " runs, " + calls + " calls, " + burdened + " with more on a box than it bears: "
                + (wrong == 0 ? "all answers are as the plain model's" : wrong + " are not"));
        if (wrong != 0) {
            System.exit(1);
        }
    }

    /** One run: its kind (from the seed) says how large boxes and truck are and what is asked most. */
    private static final class Run {
        final int seed;
        final Random random;
        final BoxNest nest = new BoxNest();
        final Plain plain = new Plain();
        final List<String> told = new ArrayList<>();
        final int kind;
        boolean spoiled = false;

        Run(int seed) {
            this.seed = seed;
            this.random = new Random(seed * 7919L + 17);
            this.kind = seed % KINDS;
        }

        int go() {
            int calls = 0;
            if (kind != 5) {
                truck();
                share();
            }
            if (kind == LIGHT) {
                burden();
            }
            int first = 2 + random.nextInt(kind == 2 ? 19 : 9);
            for (int i = 0; i < first; i++) {
                box();
            }
            for (; calls < 160 && !spoiled; calls++) {
                call();
            }
            return calls;
        }

        int upTo(int most) {
            return random.nextInt(most + 1);
        }

        int between(int least, int most) {
            return least + random.nextInt(most - least + 1);
        }

        void due(String call, int got, int want) {
            told.add(call + " = " + got);
            if (got != want) {
                spoiled = true;
                wrong++;
                System.out.println("seed " + seed + ": " + call + " answered " + got + ", plain " + want);
                if (wrong < 3) {
                    for (String line : told) {
                        System.out.println("    " + line);
                    }
                }
            }
        }

        void box() {
            if (kind == LIGHT) {
                lightBox();
            } else {
                anyBox();
            }
        }

        void lightBox() {
            int l = random.nextInt(3) == 0 ? between(4, 5) : between(1, 2);
            told(l, between(1, 3), l > 2 ? 100 : upTo(3));
        }

        void told(int l, int weight, int bears) {
            due("box(" + l + ", 1, 1, " + weight + ", " + bears + ", 1, true, 1)",
                    nest.box(l, 1, 1, weight, bears, 1, true, 1), plain.box(l, 1, 1, weight, bears, 1, true, 1));
        }

        /** With the upper one on it the long one's rests go so that the second bears its part; without it they don't. */
        void burden() {
            int[] way = BURDENS[random.nextInt(BURDENS.length)];
            int ahead = upTo(2);
            for (int i = 0; i < ahead; i++) {
                lightBox();
            }
            told(way[0], 1, 20);
            told(way[1], 1, way[5]);
            told(way[2], 1, 20);
            told(way[0] + way[1] + way[2], way[3], 100);
            told(1, way[4], 0);
            stand(ahead, 0, 0, 0);
            stand(ahead + 1, way[0], 0, 0);
            stand(ahead + 2, way[0] + way[1], 0, 0);
            stand(ahead + 4, 0, 0, 2);
            stand(ahead + 3, 0, 0, 1);
            due("take(" + (ahead + 4) + ")", nest.take(ahead + 4), plain.take(ahead + 4));
        }

        void stand(int b, int x, int y, int z) {
            due("place(" + b + ", " + x + ", " + y + ", " + z + ", false)", nest.place(b, x, y, z, false), plain.place(b, x, y, z, false));
        }

        void anyBox() {
            int most = kind == 1 ? 12 : kind == 4 ? 6 : 4;
            int l = between(1, most), w = between(1, most), h = between(1, Math.min(most, 6));
            int weight = between(1, random.nextInt(4) == 0 ? 1000 : 12);
            int bears = random.nextInt(3) == 0 ? upTo(20) : upTo(random.nextBoolean() ? 100 : 20000);
            int drop = random.nextInt(kind == 3 ? 2 : 5) > 0 ? 1 : upTo(5);
            boolean turns = random.nextBoolean();
            int worth = random.nextInt(4) == 0 ? upTo(1000) : Math.min(1000, l * w * h + upTo(2));
            if (random.nextInt(40) == 0) {
                switch (random.nextInt(7)) {
                    case 0: l = random.nextBoolean() ? 0 : 13; break;
                    case 1: w = random.nextBoolean() ? 0 : 13; break;
                    case 2: h = random.nextBoolean() ? 0 : 13; break;
                    case 3: weight = random.nextBoolean() ? 0 : 1001; break;
                    case 4: bears = random.nextBoolean() ? -1 : 20001; break;
                    case 5: drop = random.nextBoolean() ? -1 : 6; break;
                    default: worth = random.nextBoolean() ? -1 : 1001; break;
                }
            }
            due("box(" + l + ", " + w + ", " + h + ", " + weight + ", " + bears + ", " + drop + ", " + turns + ", " + worth + ")",
                    nest.box(l, w, h, weight, bears, drop, turns, worth), plain.box(l, w, h, weight, bears, drop, turns, worth));
        }

        void truck() {
            int l = between(0, kind == 1 ? 41 : 12), w = between(1, kind == 1 ? 13 : 6), h = between(1, kind == 1 ? 13 : 8);
            if (kind == LIGHT) {
                l = between(8, 10);
                w = between(1, 2);
                h = between(3, 4);
            }
            due("truck(" + l + ", " + w + ", " + h + ")", nest.truck(l, w, h), plain.truck(l, w, h));
        }

        void share() {
            int s = kind == LIGHT || random.nextInt(3) == 0 ? 0 : random.nextInt(3) == 0 ? 50 : between(-1, 101);
            due("share(" + s + ")", nest.share(s), plain.share(s));
        }

        int someBox() {
            return random.nextInt(30) == 0 ? between(-2, 21) : random.nextInt(Math.max(1, plain.boxes.size()));
        }

        int place(int most) {
            return random.nextInt(60) == 0 ? (random.nextBoolean() ? -1 : between(39, 42)) : upTo(most);
        }

        void call() {
            if (kind == LIGHT) {
                burdened += plain.isBurdened() ? 1 : 0;
                if (random.nextInt(4) > 0) {
                    lightCall();
                    return;
                }
            }
            switch (random.nextInt(22)) {
                case 0: if (random.nextInt(3) == 0) box(); break;
                case 1: if (random.nextInt(3) == 0) truck(); else share(); break;
                case 2: axles(); break;
                case 3: side(); break;
                case 4: case 5: case 6: standing(false); break;
                case 7: case 8: standing(true); break;
                case 9: case 10: case 11: set(); break;
                case 12: take(); break;
                case 13: if (random.nextInt(5) == 0) due("clear()", nest.clear(), plain.clear()); break;
                case 14: best(); break;
                case 15: case 16: abouts(); break;
                case 17: at(); break;
                case 18: drops(); break;
                case 19: if (random.nextInt(4) == 0) cuts(); break;
                case 20: trucks(); break;
                default: counts(); break;
            }
        }

        void lightCall() {
            switch (random.nextInt(8)) {
                case 0: set(); break;
                case 1: best(); break;
                case 2: case 3: take(); break;
                default: standing(true); break;
            }
        }

        void axles() {
            int f = upTo(8), s = between(4, 14), front = upTo(random.nextBoolean() ? 100 : 3000), rear = upTo(random.nextBoolean() ? 100 : 3000);
            if (random.nextInt(10) == 0) {
                f = between(-1, 41);
                s = between(-1, 41);
                front = random.nextInt(2) == 0 ? 100000 : between(-1, 100001);
                rear = random.nextInt(2) == 0 ? 100001 : between(-1, 100001);
            }
            due("axles(" + f + ", " + s + ", " + front + ", " + rear + ")", nest.axles(f, s, front, rear), plain.axles(f, s, front, rear));
        }

        void side() {
            int s = between(-1, 101);
            due("side(" + s + ")", nest.side(s), plain.side(s));
        }

        void standing(boolean put) {
            int b = someBox();
            int x = place(plain.length), y = place(plain.width), z = place(plain.height);
            if (random.nextInt(3) > 0 && !plain.in.isEmpty()) {
                int[] other = plain.in.get(plain.in.keySet().toArray(new Integer[0])[random.nextInt(plain.in.size())]);
                x = Math.max(0, other[0] + between(-1, 1));
                y = Math.max(0, other[1] + between(-1, 1));
                z = kind == LIGHT && random.nextBoolean() ? Math.max(0, other[2] - 1) : other[2] + other[5];
            }
            boolean turned = random.nextInt(3) == 0;
            String what = "(" + b + ", " + x + ", " + y + ", " + z + ", " + turned + ")";
            due("wrong" + what, nest.wrong(b, x, y, z, turned), plain.wrong(b, x, y, z, turned));
            if (put) {
                due("place" + what, nest.place(b, x, y, z, turned), plain.place(b, x, y, z, turned));
            }
        }

        void set() {
            int b = someBox();
            due("set(" + b + ")", nest.set(b), plain.set(b));
        }

        void take() {
            int b = someBox();
            due("take(" + b + ")", nest.take(b), plain.take(b));
        }

        void best() {
            int set = 0;
            int size = random.nextInt(12) == 0 ? 6 : between(1, kind == 4 ? 5 : 4);
            for (int i = 0; i < 40 && Integer.bitCount(set) < size; i++) {
                int b = someBox();
                if (b >= 0 && b < plain.boxes.size() && !plain.in.containsKey(b)) {
                    set |= 1 << b;
                }
            }
            if (random.nextInt(20) == 0) {
                set = random.nextInt(4) == 0 ? -1 - upTo(9) : random.nextInt(1 << 21);
            }
            due("best(" + set + ")", nest.best(set), plain.best(set));
            abouts();
        }

        void abouts() {
            for (int b = -1; b <= plain.boxes.size(); b++) {
                for (int what = random.nextInt(10) == 0 ? -1 : 8; what <= 15 && !spoiled; what++) {
                    due("about(" + b + ", " + what + ")", nest.about(b, what), plain.about(b, what));
                }
            }
        }

        void at() {
            for (int i = 0; i < 6 && !spoiled; i++) {
                int x = between(-1, plain.length), y = between(-1, plain.width), z = between(-1, plain.height);
                due("at(" + x + ", " + y + ", " + z + ")", nest.at(x, y, z), plain.at(x, y, z));
            }
        }

        void drops() {
            for (int d = -1; d <= 7 && !spoiled; d++) {
                due("over(" + d + ")", nest.over(d), plain.over(d));
            }
            due("fit()", nest.fit(), plain.fit());
            for (int i = 0; i < 8 && !spoiled; i++) {
                int k = random.nextInt(10) == 0 ? between(-1, 2) : upTo(1);
                int d = random.nextInt(10) == 0 ? between(-1, 7) : upTo(6);
                int what = random.nextInt(10) == 0 ? between(-1, 2) : upTo(1);
                due("axle(" + k + ", " + d + ", " + what + ")", nest.axle(k, d, what), plain.axle(k, d, what));
            }
        }

        void cuts() {
            int most = kind == 2 ? 16 : 7;
            int l = between(1, most), w = between(1, most), h = between(1, most);
            if (random.nextInt(15) == 0) {
                l = random.nextBoolean() ? 0 : 17;
            }
            due("cut(" + l + ", " + w + ", " + h + ")", nest.cut(l, w, h), plain.cut(l, w, h));
            int pieces = plain.pattern == null ? 0 : plain.pattern.size();
            for (int i = 0; i < 12 && !spoiled; i++) {
                int piece = i == 0 ? pieces : i == 1 ? -1 : i < 6 ? i - 2 : random.nextInt(pieces + 1);
                for (int what = -1; what <= 5 && !spoiled; what++) {
                    due("piece(" + piece + ", " + what + ")", nest.piece(piece, what), plain.piece(piece, what));
                }
            }
            if (random.nextInt(4) == 0) {
                box();
                due("piece(0, 0)", nest.piece(0, 0), plain.piece(0, 0));
            }
        }

        void trucks() {
            int set = random.nextInt(1 << Math.min(plain.boxes.size(), 20));
            if (random.nextInt(15) == 0) {
                set = random.nextInt();
            } else if (random.nextInt(3) > 0) {
                set = plain.fitting(set);
            }
            due("trucks(" + set + ")", nest.trucks(set), plain.trucks(set));
            for (int what = -1; what <= 3 && !spoiled; what++) {
                due("shown(" + what + ")", nest.shown(what), plain.shown(what));
            }
        }

        void counts() {
            for (int what = -1; what <= 14 && !spoiled; what++) {
                due("count(" + what + ")", nest.count(what), plain.count(what));
            }
        }
    }

    /** The document's words, done cell by cell. */
    private static final class Plain {
        static final int NONE = -1, RANGE = -2, FULL = -3, STATE = -4;
        static final int NO_AXLE = -2000000000;
        /** l, w, h, weight, bears, drop, turns, worth. */
        final List<int[]> boxes = new ArrayList<>();
        /** By number: x, y, z, and the sizes as it stands, and 1 if turned. */
        final Map<Integer, int[]> in = new HashMap<>();
        int length = 10, width = 4, height = 4, share = 70, first = 2, second = 8, front = 100000, rear = 100000, side = 100;
        List<int[]> pattern = null;
        int[] shown = null;

        static boolean isIn(int v, int least, int most) {
            return least <= v && v <= most;
        }

        int box(int l, int w, int h, int weight, int bears, int drop, boolean turns, int worth) {
            boolean good = isIn(l, 1, 12) && isIn(w, 1, 12) && isIn(h, 1, 12) && isIn(weight, 1, 1000)
                    && isIn(bears, 0, 20000) && isIn(drop, 0, 5) && isIn(worth, 0, 1000);
            if (!good) return RANGE;
            if (boxes.size() == 20) return FULL;
            boxes.add(new int[] {l, w, h, weight, bears, drop, turns ? 1 : 0, worth});
            pattern = null;
            return boxes.size() - 1;
        }

        int truck(int l, int w, int h) {
            if (!(isIn(l, 1, 40) && isIn(w, 1, 12) && isIn(h, 1, 12))) return RANGE;
            if (!in.isEmpty()) return STATE;
            length = l;
            width = w;
            height = h;
            return 1;
        }

        int share(int s) {
            if (!isIn(s, 0, 100)) return RANGE;
            if (!in.isEmpty()) return STATE;
            int was = share;
            share = s;
            return was;
        }

        int axles(int f, int s, int fl, int rl) {
            if (!(isIn(f, 0, 40) && isIn(s, 0, 40) && f < s && isIn(fl, 0, 100000) && isIn(rl, 0, 100000))) return RANGE;
            first = f;
            second = s;
            front = fl;
            rear = rl;
            return 1;
        }

        int side(int s) {
            if (!isIn(s, 0, 100)) return RANGE;
            int was = side;
            side = s;
            return was;
        }

        int[] standing(int b, int x, int y, int z, boolean turned) {
            int[] box = boxes.get(b);
            return new int[] {x, y, z, turned ? box[1] : box[0], turned ? box[0] : box[1], box[2], turned ? 1 : 0};
        }

        static boolean has(int[] p, int x, int y, int z) {
            return isIn(x, p[0], p[0] + p[3] - 1) && isIn(y, p[1], p[1] + p[4] - 1) && isIn(z, p[2], p[2] + p[5] - 1);
        }

        /** Base cells of p right above cells of q. */
        static int cellsOn(int[] p, int[] q) {
            if (p[2] != q[2] + q[5]) return 0;
            int cells = 0;
            for (int x = p[0]; x < p[0] + p[3]; x++) {
                for (int y = p[1]; y < p[1] + p[4]; y++) {
                    if (has(q, x, y, p[2] - 1)) cells++;
                }
            }
            return cells;
        }

        Map<Integer, Integer> loads(Map<Integer, int[]> placed) {
            List<Integer> order = new ArrayList<>(placed.keySet());
            order.sort((a, b) -> {
                int topA = placed.get(a)[2] + placed.get(a)[5], topB = placed.get(b)[2] + placed.get(b)[5];
                return topA != topB ? topB - topA : a - b;
            });
            Map<Integer, Integer> loads = new HashMap<>();
            for (int n : order) loads.put(n, 0);
            for (int n : order) {
                int sum = boxes.get(n)[3] + loads.get(n);
                List<Integer> below = new ArrayList<>();
                int all = 0;
                for (int m = 0; m < boxes.size(); m++) {
                    if (placed.containsKey(m) && m != n && cellsOn(placed.get(n), placed.get(m)) > 0) {
                        below.add(m);
                        all += cellsOn(placed.get(n), placed.get(m));
                    }
                }
                int given = 0;
                for (int m : below) {
                    int part = sum * cellsOn(placed.get(n), placed.get(m)) / all;
                    loads.merge(m, part, Integer::sum);
                    given += part;
                }
                for (int i = 0; i < below.size() && given < sum; i++, given++) {
                    loads.merge(below.get(i), 1, Integer::sum);
                }
            }
            return loads;
        }

        /** Whether a stands in the way of b: some cell of it beyond or above some cell of that. */
        static boolean blocks(int[] a, int[] b) {
            for (int y = a[1]; y < a[1] + a[4]; y++) {
                for (int z = a[2]; z < a[2] + a[5]; z++) {
                    if (has(b, b[0], y, z) && a[0] >= b[0] + b[3]) return true;
                }
                for (int x = a[0]; x < a[0] + a[3]; x++) {
                    if (has(b, x, y, b[2]) && a[2] >= b[2] + b[5]) return true;
                }
            }
            return false;
        }

        int bits(int b, int[] p) {
            int bits = 0;
            for (int x = p[0]; x < p[0] + p[3]; x++) {
                for (int y = p[1]; y < p[1] + p[4]; y++) {
                    for (int z = p[2]; z < p[2] + p[5]; z++) {
                        if (x >= length || y >= width || z >= height) bits |= 1;
                        if (at(x, y, z) != NONE) bits |= 2;
                    }
                }
            }
            if (bits != 0) return bits;
            int held = p[2] == 0 ? p[3] * p[4] : 0;
            for (int[] q : in.values()) held += cellsOn(p, q);
            if (100 * held < share * p[3] * p[4]) bits |= 4;
            for (int m : in.keySet()) {
                int mine = boxes.get(b)[5], other = boxes.get(m)[5];
                if (mine > other && blocks(p, in.get(m))) bits |= 16;
                if (other > mine && blocks(in.get(m), p)) bits |= 16;
            }
            if ((bits & 4) == 0) {
                Map<Integer, int[]> then = new HashMap<>(in);
                then.put(b, p);
                Map<Integer, Integer> loads = loads(then);
                for (int m : then.keySet()) {
                    if (loads.get(m) > boxes.get(m)[4]) bits |= 8;
                }
            }
            return bits;
        }

        boolean isBurdened() {
            Map<Integer, Integer> loads = loads(in);
            for (int m : in.keySet()) {
                if (loads.get(m) > boxes.get(m)[4]) return true;
            }
            return false;
        }

        int wrong(int b, int x, int y, int z, boolean turned) {
            if (!isIn(b, 0, boxes.size() - 1) || !isIn(x, 0, 40) || !isIn(y, 0, 40) || !isIn(z, 0, 40)) return RANGE;
            if (turned && boxes.get(b)[6] == 0) return RANGE;
            if (in.containsKey(b)) return STATE;
            return bits(b, standing(b, x, y, z, turned));
        }

        int place(int b, int x, int y, int z, boolean turned) {
            int bits = wrong(b, x, y, z, turned);
            if (bits < 0) return bits;
            if (bits > 0) return 0;
            in.put(b, standing(b, x, y, z, turned));
            return 1;
        }

        int set(int b) {
            if (!isIn(b, 0, boxes.size() - 1)) return RANGE;
            if (in.containsKey(b)) return STATE;
            int[] box = boxes.get(b);
            for (int z = 0; z <= height; z++) {
                if (!isEnd(2, z)) continue;
                for (int x = 0; x <= length; x++) {
                    if (!isEnd(0, x)) continue;
                    for (int y = 0; y <= width; y++) {
                        if (!isEnd(1, y)) continue;
                        for (int t = 0; t <= (box[6] == 1 && box[0] != box[1] ? 1 : 0); t++) {
                            int[] p = standing(b, x, y, z, t == 1);
                            if (bits(b, p) == 0) {
                                in.put(b, p);
                                return 1;
                            }
                        }
                    }
                }
            }
            return NONE;
        }

        boolean isEnd(int direction, int c) {
            if (c == 0) return true;
            for (int[] p : in.values()) {
                if (p[direction] + p[direction + 3] == c) return true;
            }
            return false;
        }

        int take(int b) {
            if (!isIn(b, 0, boxes.size() - 1)) return RANGE;
            if (!in.containsKey(b)) return STATE;
            for (int[] p : in.values()) {
                if (cellsOn(p, in.get(b)) > 0) return 0;
            }
            in.remove(b);
            return 1;
        }

        int clear() {
            int were = in.size();
            in.clear();
            return were;
        }

        boolean isSet(int set) {
            return set > 0 && set < 1L << boxes.size();
        }

        int best(int set) {
            if (!isSet(set)) return RANGE;
            List<Integer> members = new ArrayList<>();
            for (int b = 0; b < 20; b++) {
                if ((set >> b & 1) == 1) members.add(b);
            }
            for (int b : members) {
                if (in.containsKey(b)) return STATE;
            }
            if (members.size() > 5) return FULL;
            List<List<Integer>> orders = new ArrayList<>();
            allOrders(members, new ArrayList<>(), orders);
            Map<Integer, int[]> before = new HashMap<>(in);
            List<Integer> bestOrder = null;
            int bestPlaced = 0, bestReach = 0;
            for (List<Integer> order : orders) {
                in.clear();
                in.putAll(before);
                for (int b : order) set(b);
                int placed = in.size() - before.size(), reach = count(3);
                boolean better = bestOrder == null || placed > bestPlaced || placed == bestPlaced
                        && (reach < bestReach || reach == bestReach && isLess(order, bestOrder));
                if (better) {
                    bestOrder = order;
                    bestPlaced = placed;
                    bestReach = reach;
                }
            }
            in.clear();
            in.putAll(before);
            for (int b : bestOrder) set(b);
            return bestPlaced;
        }

        static boolean isLess(List<Integer> a, List<Integer> b) {
            for (int i = 0; i < a.size(); i++) {
                if (!a.get(i).equals(b.get(i))) return a.get(i) < b.get(i);
            }
            return false;
        }

        /** On purpose not in rising order: the greatest member first. */
        static void allOrders(List<Integer> left, List<Integer> row, List<List<Integer>> all) {
            if (left.isEmpty()) all.add(new ArrayList<>(row));
            for (int i = left.size() - 1; i >= 0; i--) {
                List<Integer> rest = new ArrayList<>(left);
                row.add(rest.remove(i));
                allOrders(rest, row, all);
                row.remove(row.size() - 1);
            }
        }

        int about(int b, int what) {
            if (!isIn(b, 0, boxes.size() - 1) || !isIn(what, 0, 14)) return -9;
            if (what < 8) return boxes.get(b)[what];
            int[] p = in.get(b);
            if (p == null) return isIn(what, 9, 11) ? NONE : 0;
            switch (what) {
                case 8: return 1;
                case 12: return p[6];
                case 13: return loads(in).get(b);
                case 14:
                    int stands = 0;
                    for (int[] q : in.values()) stands += cellsOn(p, q) > 0 ? 1 : 0;
                    return stands;
                default: return p[what - 9];
            }
        }

        int at(int x, int y, int z) {
            for (int b : in.keySet()) {
                if (has(in.get(b), x, y, z)) return b;
            }
            return NONE;
        }

        /** Above and below of the exact load, cut. */
        BigInteger[] load(int k, int d) {
            BigInteger above = BigInteger.ZERO, below = BigInteger.ONE;
            for (int b : in.keySet()) {
                int[] p = in.get(b);
                if (boxes.get(b)[5] < d) continue;
                int weight = boxes.get(b)[3];
                BigInteger under = BigInteger.valueOf(2L * (second - first));
                long twice = 2L * p[0] + p[3] - 2L * first;
                BigInteger part = BigInteger.valueOf(weight).multiply(BigInteger.valueOf(twice));
                if (k == 0) part = BigInteger.valueOf(weight).multiply(under).subtract(part);
                above = above.multiply(under).add(part.multiply(below));
                below = below.multiply(under);
                BigInteger common = above.gcd(below);
                above = above.divide(common);
                below = below.divide(common);
            }
            return new BigInteger[] {above, below};
        }

        int axle(int k, int d, int what) {
            if (!isIn(k, 0, 1) || !isIn(d, 0, 6) || !isIn(what, 0, 1)) return NO_AXLE;
            return load(k, d)[what].intValueExact();
        }

        int over(int d) {
            if (!isIn(d, 0, 6)) return RANGE;
            int bits = 0;
            for (int k = 0; k <= 1; k++) {
                BigInteger[] load = load(k, d);
                BigInteger limit = BigInteger.valueOf(k == 0 ? front : rear).multiply(load[1]);
                if (load[0].signum() < 0 || load[0].compareTo(limit) > 0) bits |= 1 << k;
            }
            long weights = 0, twice = 0;
            for (int b : in.keySet()) {
                if (boxes.get(b)[5] >= d) {
                    weights += boxes.get(b)[3];
                    twice += boxes.get(b)[3] * (2L * in.get(b)[1] + in.get(b)[4]);
                }
            }
            // twice / (2 weights) against width / 2: away by more than side / 100 of width / 2
            if (weights > 0 && 100 * Math.abs(twice - width * weights) > (long) side * width * weights) bits |= 4;
            return bits;
        }

        int fit() {
            for (int d = 0; d <= 6; d++) {
                if (over(d) != 0) return d;
            }
            return NONE;
        }

        int cut(int l, int w, int h) {
            if (!isIn(l, 1, 16) || !isIn(w, 1, 16) || !isIn(h, 1, 16)) return RANGE;
            Map<Integer, Integer> memo = new HashMap<>();
            int most = worth(new int[] {l, w, h}, memo);
            pattern = new ArrayList<>();
            lay(new int[] {l, w, h}, new int[] {0, 0, 0}, memo);
            return most;
        }

        int worth(int[] block, Map<Integer, Integer> memo) {
            int key = block[0] * 10000 + block[1] * 100 + block[2];
            Integer known = memo.get(key);
            if (known != null) return known;
            int most = 0;
            for (int b = 0; b < boxes.size(); b++) {
                if (turnOf(b, block) != NONE) most = Math.max(most, boxes.get(b)[7]);
            }
            for (int direction = 0; direction < 3; direction++) {
                for (int part = 1; part < block[direction]; part++) {
                    most = Math.max(most, worth(with(block, direction, part), memo)
                            + worth(with(block, direction, block[direction] - part), memo));
                }
            }
            memo.put(key, most);
            return most;
        }

        static int[] with(int[] row, int i, int v) {
            int[] copy = row.clone();
            copy[i] = v;
            return copy;
        }

        /** 0 or 1 as box b is the block as it is or turned, else NONE. */
        int turnOf(int b, int[] block) {
            int[] box = boxes.get(b);
            if (box[2] != block[2]) return NONE;
            if (box[0] == block[0] && box[1] == block[1]) return 0;
            return box[6] == 1 && box[0] == block[1] && box[1] == block[0] ? 1 : NONE;
        }

        void lay(int[] block, int[] spot, Map<Integer, Integer> memo) {
            int most = worth(block, memo);
            if (most == 0) return;
            for (int b = 0; b < boxes.size(); b++) {
                if (turnOf(b, block) != NONE && boxes.get(b)[7] == most) {
                    pattern.add(new int[] {b, spot[0], spot[1], spot[2], turnOf(b, block)});
                    return;
                }
            }
            for (int direction = 0; direction < 3; direction++) {
                for (int part = 1; part < block[direction]; part++) {
                    int[] ahead = with(block, direction, part);
                    int[] behind = with(block, direction, block[direction] - part);
                    if (worth(ahead, memo) + worth(behind, memo) == most) {
                        lay(ahead, spot, memo);
                        lay(behind, with(spot, direction, spot[direction] + part), memo);
                        return;
                    }
                }
            }
        }

        int piece(int i, int what) {
            if (pattern == null || !isIn(i, 0, pattern.size() - 1) || !isIn(what, 0, 4)) return NONE;
            return pattern.get(i)[what];
        }

        /** All ways (length, width) in which a box fits in the empty truck. */
        List<int[]> ways(int b) {
            List<int[]> ways = new ArrayList<>();
            for (int t = 0; t <= boxes.get(b)[6]; t++) {
                int[] p = standing(b, 0, 0, 0, t == 1);
                if (p[3] <= length && p[4] <= width && p[5] <= height) ways.add(new int[] {p[3], p[4]});
            }
            return ways;
        }

        int fitting(int set) {
            int fit = set;
            for (int b = 0; b < boxes.size(); b++) {
                if (ways(b).isEmpty()) fit &= ~(1 << b);
            }
            return fit;
        }

        int trucks(int set) {
            if (!isSet(set)) return RANGE;
            if (fitting(set) != set) return STATE;
            int volumes = 0;
            int[] apart = new int[20];
            for (int b = 0; b < boxes.size(); b++) {
                if ((set >> b & 1) == 0) continue;
                volumes += boxes.get(b)[0] * boxes.get(b)[1] * boxes.get(b)[2];
                for (int c = 0; c < boxes.size(); c++) {
                    if (c != b && (set >> c & 1) == 1 && areApart(b, c)) apart[b] |= 1 << c;
                }
            }
            int truck = length * width * height, most = 0, least = 0;
            int byVolumes = 0;
            while (byVolumes * truck < volumes) byVolumes++;
            for (int some = set; some > 0; some = (some - 1) & set) {
                int size = Integer.bitCount(some);
                boolean all = true;
                for (int b = 0; b < 20 && all && size >= most; b++) {
                    all = (some >> b & 1) == 0 || (some & ~(1 << b) & ~apart[b]) == 0;
                }
                if (all && size >= most) {
                    most = size;
                    least = some;
                }
            }
            shown = new int[] {byVolumes, most, least};
            return Math.max(byVolumes, most);
        }

        boolean areApart(int b, int c) {
            if (boxes.get(b)[2] + boxes.get(c)[2] <= height) return false;
            for (int[] one : ways(b)) {
                for (int[] other : ways(c)) {
                    if (one[0] + other[0] <= length || one[1] + other[1] <= width) return false;
                }
            }
            return true;
        }

        int shown(int what) {
            return shown == null || !isIn(what, 0, 2) ? NONE : shown[what];
        }

        int count(int what) {
            int weights = 0, end = 0, cells = 0;
            for (int b : in.keySet()) {
                int[] p = in.get(b);
                weights += boxes.get(b)[3];
                end = Math.max(end, p[0] + p[3]);
                cells += p[3] * p[4] * p[5];
            }
            int[] all = {boxes.size(), in.size(), weights, end, cells, length, width, height, share, first, second, front, rear, side};
            return isIn(what, 0, all.length - 1) ? all[what] : NONE;
        }
    }
}
