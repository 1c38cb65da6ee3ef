import java.util.Arrays;

/**
 * A loader of boxes: it keeps the boxes and the truck that it is told, places boxes by the laws,
 * weighs the axles at each drop, cuts blocks to the most worth and bounds how many trucks there must be.
 */
public final class BoxNest {
    public static final int NONE = -1;
    public static final int RANGE = -2;
    public static final int FULL = -3;
    public static final int STATE = -4;

    private static final int MOST_BOXES = 20;
    private static final int MOST_LISTED = 5;
    private static final int ALL_OUT = 6;
    private static final int FARTHEST = 40;
    private static final int WIDEST = 12;
    private static final int NO_ABOUT = -9;
    private static final int NO_AXLE = -2000000000;

    private static final int OUTSIDE = 1;
    private static final int THROUGH = 2;
    private static final int UNHELD = 4;
    private static final int OVERLOADED = 8;
    private static final int IN_WAY = 16;

    private final Hold hold;
    private final Orders orders;
    private final Balance balance;
    private final Bounds bounds;
    /** Made at the first cut only: its rows are by far the largest, and many objects are never asked to cut. */
    private Cutter cutter;

    public BoxNest() {
        hold = new Hold();
        orders = new Orders();
        balance = new Balance();
        bounds = new Bounds();
        cutter = null;
    }

    // ---- what is told

    public int box(int length, int width, int height, int weight, int bears, int drop, boolean turns, int worth) {
        if (!within(length, 1, 12) || !within(width, 1, 12) || !within(height, 1, 12) || !within(weight, 1, 1000)
                || !within(bears, 0, 20000) || !within(drop, 0, 5) || !within(worth, 0, 1000)) {
            return RANGE;
        }
        if (hold.told >= MOST_BOXES) {
            return FULL;
        }
        Box next = hold.boxes[hold.told];
        next.length = length;
        next.width = width;
        next.height = height;
        next.weight = weight;
        next.bears = bears;
        next.drop = drop;
        next.turns = turns;
        next.worth = worth;
        hold.told++;
        if (cutter != null) {
            cutter.forget();
        }
        return hold.told - 1;
    }

    public int truck(int length, int width, int height) {
        if (!within(length, 1, FARTHEST) || !within(width, 1, WIDEST) || !within(height, 1, WIDEST)) {
            return RANGE;
        }
        if (hold.in != 0) {
            return STATE;
        }
        hold.truck.length = length;
        hold.truck.width = width;
        hold.truck.height = height;
        return 1;
    }

    public int share(int hundredths) {
        if (!within(hundredths, 0, 100)) {
            return RANGE;
        }
        if (hold.in != 0) {
            return STATE;
        }
        int before = hold.truck.share;
        hold.truck.share = hundredths;
        return before;
    }

    public int axles(int first, int second, int front, int rear) {
        if (!within(first, 0, FARTHEST) || !within(second, 0, FARTHEST) || first >= second
                || !within(front, 0, 100000) || !within(rear, 0, 100000)) {
            return RANGE;
        }
        hold.truck.first = first;
        hold.truck.second = second;
        hold.truck.frontLimit = front;
        hold.truck.rearLimit = rear;
        return 1;
    }

    public int side(int hundredths) {
        if (!within(hundredths, 0, 100)) {
            return RANGE;
        }
        int before = hold.truck.sideLimit;
        hold.truck.sideLimit = hundredths;
        return before;
    }

    // ---- boxes in the truck

    public int wrong(int b, int x, int y, int z, boolean turned) {
        int refused = refusal(b, x, y, z, turned);
        if (refused != 0) {
            return refused;
        }
        hold.stand(b, x, y, z, turned);
        return hold.faults(b);
    }

    public int place(int b, int x, int y, int z, boolean turned) {
        int refused = refusal(b, x, y, z, turned);
        if (refused != 0) {
            return refused;
        }
        hold.stand(b, x, y, z, turned);
        if (hold.faults(b) != 0) {
            return 0;
        }
        hold.putIn(b);
        return 1;
    }

    public int set(int b) {
        if (!hold.knows(b)) {
            return RANGE;
        }
        if (hold.has(b)) {
            return STATE;
        }
        return hold.setAtCorner(b) ? 1 : NONE;
    }

    public int take(int b) {
        if (!hold.knows(b)) {
            return RANGE;
        }
        if (!hold.has(b)) {
            return STATE;
        }
        if (hold.carries(b)) {
            return 0;
        }
        hold.putOut(b);
        return 1;
    }

    public int clear() {
        int before = Integer.bitCount(hold.in);
        hold.in = 0;
        return before;
    }

    public int best(int set) {
        if (!isSet(set)) {
            return RANGE;
        }
        if ((set & hold.in) != 0) {
            return STATE;
        }
        if (Integer.bitCount(set) > MOST_LISTED) {
            return FULL;
        }
        orders.begin();
        tryOrders(set, 0, 0, 0);
        return setBest();
    }

    public int about(int b, int what) {
        if (!hold.knows(b)) {
            return NO_ABOUT;
        }
        Box box = hold.boxes[b];
        boolean in = hold.has(b);
        switch (what) {
            case 0: return box.length;
            case 1: return box.width;
            case 2: return box.height;
            case 3: return box.weight;
            case 4: return box.bears;
            case 5: return box.drop;
            case 6: return box.turns ? 1 : 0;
            case 7: return box.worth;
            case 8: return in ? 1 : 0;
            case 9: return in ? box.x : NONE;
            case 10: return in ? box.y : NONE;
            case 11: return in ? box.z : NONE;
            case 12: return in && box.turned ? 1 : 0;
            case 13: return in ? hold.loadOf(b) : 0;
            case 14: return in ? hold.supportsOf(b) : 0;
            default: return NO_ABOUT;
        }
    }

    public int at(int x, int y, int z) {
        for (int n = 0; n < hold.told; n++) {
            if (hold.has(n) && hold.boxes[n].fills(x, y, z)) {
                return n;
            }
        }
        return NONE;
    }

    // ---- drops

    public int axle(int k, int d, int what) {
        if (!within(k, 0, 1) || !within(d, 0, ALL_OUT) || !within(what, 0, 1)) {
            return NO_AXLE;
        }
        balance.sum(hold, d);
        int above = k == 0 ? balance.front() : balance.rear();
        int common = commonDivisor(Math.abs(above), balance.below);
        if (common < 1) {
            return NO_AXLE;
        }
        return what == 0 ? above / common : balance.below / common;
    }

    public int over(int d) {
        if (!within(d, 0, ALL_OUT)) {
            return RANGE;
        }
        return overAt(d);
    }

    public int fit() {
        for (int d = 0; d <= ALL_OUT; d++) {
            if (overAt(d) != 0) {
                return d;
            }
        }
        return NONE;
    }

    // ---- cuts, trucks

    public int cut(int length, int width, int height) {
        if (!within(length, 1, 16) || !within(width, 1, 16) || !within(height, 1, 16)) {
            return RANGE;
        }
        if (cutter == null) {
            cutter = new Cutter();
        }
        return cutter.mostWorth(hold, length, width, height);
    }

    public int piece(int i, int what) {
        if (cutter == null) {
            return NONE;
        }
        return cutter.tell(hold, i, what);
    }

    public int trucks(int set) {
        if (!isSet(set)) {
            return RANGE;
        }
        for (int n = 0; n < hold.told; n++) {
            if ((set >> n & 1) != 0 && !hold.fitsEmpty(n, false) && !hold.fitsEmpty(n, true)) {
                return STATE;
            }
        }
        bounds.judge(hold, set);
        return Math.max(bounds.byVolume, bounds.byBig);
    }

    public int shown(int what) {
        if (!bounds.judged) {
            return NONE;
        }
        switch (what) {
            case 0: return bounds.byVolume;
            case 1: return bounds.byBig;
            case 2: return bounds.bigOnes;
            default: return NONE;
        }
    }

    public int count(int what) {
        Truck truck = hold.truck;
        switch (what) {
            case 0: return hold.told;
            case 1: return Integer.bitCount(hold.in);
            case 2: return hold.weightIn();
            case 3: return hold.reach();
            case 4: return hold.cellsFilled();
            case 5: return truck.length;
            case 6: return truck.width;
            case 7: return truck.height;
            case 8: return truck.share;
            case 9: return truck.first;
            case 10: return truck.second;
            case 11: return truck.frontLimit;
            case 12: return truck.rearLimit;
            case 13: return truck.sideLimit;
            default: return NONE;
        }
    }

    // ---- helpers of the calls

    private static boolean within(int value, int least, int most) {
        return value >= least && value <= most;
    }

    private boolean isSet(int set) {
        return set > 0 && set >> hold.told == 0;
    }

    /** Why a box can't be asked about at a place at all: RANGE, STATE, or 0 if it can. */
    private int refusal(int b, int x, int y, int z, boolean turned) {
        if (!hold.knows(b) || !within(x, 0, FARTHEST) || !within(y, 0, FARTHEST) || !within(z, 0, FARTHEST)) {
            return RANGE;
        }
        if (turned && !hold.boxes[b].turns) {
            return RANGE;
        }
        return hold.has(b) ? STATE : 0;
    }

    /**
     * Tries all orders of the open boxes behind the row so far, the least row first. Those in cornerless are known
     * to find no corner as long as no other box is put in: they need not seek it again.
     */
    private void tryOrders(int open, int depth, int placed, int cornerless) {
        int reach = hold.reach();
        if (orders.cannotWin(placed + Integer.bitCount(open), reach)) {
            return;
        }
        if (open == 0 || depth >= MOST_LISTED) {
            orders.keep(depth, placed, reach);
            return;
        }
        int lost = cornerless;
        for (int n = 0; n < hold.told; n++) {
            if ((open >> n & 1) != 0) {
                orders.row[depth] = n;
                if ((lost >> n & 1) == 0 && hold.setAtCorner(n)) {
                    tryOrders(open & ~(1 << n), depth + 1, placed + 1, 0);
                    hold.putOut(n);
                } else {
                    lost |= 1 << n;
                    tryOrders(open & ~(1 << n), depth + 1, placed, lost);
                }
            }
        }
    }

    /** Sets the boxes of the best order: how many have found their corner. */
    private int setBest() {
        int placed = 0;
        for (int i = 0; i < orders.bestSize; i++) {
            if (hold.setAtCorner(orders.bestRow[i])) {
                placed++;
            }
        }
        return placed;
    }

    private int overAt(int d) {
        balance.sum(hold, d);
        return balance.overBits(hold.truck);
    }

    private static int commonDivisor(int one, int other) {
        int greater = one;
        int less = other;
        for (int i = 0; i < 64 && less > 0; i++) {
            int left = greater % less;
            greater = less;
            less = left;
        }
        return greater;
    }

    // ---- the parts

    /** A box as told, and where it stands (or was last tried: Hold knows whether it is in). */
    private static final class Box {
        int length;
        int width;
        int height;
        int weight;
        int bears;
        int drop;
        boolean turns;
        int worth;
        int x;
        int y;
        int z;
        int endX;
        int endY;
        int top;
        boolean turned;

        void moveTo(int newX, int newY, int newZ, boolean newTurned) {
            x = newX;
            y = newY;
            z = newZ;
            turned = newTurned;
            endX = newX + (newTurned ? width : length);
            endY = newY + (newTurned ? length : width);
            top = newZ + height;
        }

        boolean fills(int cellX, int cellY, int cellZ) {
            return cellX >= x && cellX < endX && cellY >= y && cellY < endY && cellZ >= z && cellZ < top;
        }

        /** The area with which this one stands on the other. */
        int areaOn(Box other) {
            if (other.top != z) {
                return 0;
            }
            int along = (endX < other.endX ? endX : other.endX) - (x > other.x ? x : other.x);
            int across = (endY < other.endY ? endY : other.endY) - (y > other.y ? y : other.y);
            return along > 0 && across > 0 ? along * across : 0;
        }

        int volume() {
            return length * width * height;
        }
    }

    /** The truck, its laws, axles and limits. */
    private static final class Truck {
        int length = 10;
        int width = 4;
        int height = 4;
        int share = 70;
        int first = 2;
        int second = 8;
        int frontLimit = 100000;
        int rearLimit = 100000;
        int sideLimit = 100;
    }

    /**
     * Where corners can lie in one direction, rising, and for each the bits of the placed boxes
     * with which a tried box would have something in common in that direction, not turned and turned.
     */
    private static final class Edges {
        final int[] place = new int[MOST_BOXES + 1];
        final int[] straight = new int[MOST_BOXES + 1];
        final int[] turned = new int[MOST_BOXES + 1];
        int size;

        /** Takes the places whose bits are set in ends. */
        void list(long ends) {
            size = 0;
            for (int c = 0; c <= FARTHEST && size < place.length; c++) {
                if ((ends >> c & 1L) != 0) {
                    place[size] = c;
                    size++;
                }
            }
        }
    }

    /** All boxes, which of them are in the truck, and what the laws say of one more. */
    private static final class Hold {
        /** A mark beside the boxes' bits: the tried box would end outside. */
        static final int PAST_WALL = 1 << 30;

        final Truck truck = new Truck();
        final Box[] boxes = new Box[MOST_BOXES];
        int told;
        /** The placed boxes, as bits. */
        int in;
        private final int[] loads = new int[MOST_BOXES];
        private final int[] areas = new int[MOST_BOXES];
        private final Edges alongX = new Edges();
        private final Edges alongY = new Edges();
        private final Edges alongZ = new Edges();
        /** The placed boxes with which the tried one has something in common, direction by direction. */
        private int commonX;
        private int commonY;
        private int commonZ;
        /** Whether the placed boxes bear their loads, ahead of the one that seeks its corner. */
        private boolean allBorne;

        Hold() {
            for (int n = 0; n < MOST_BOXES; n++) {
                boxes[n] = new Box();
            }
        }

        boolean knows(int n) {
            return n >= 0 && n < told;
        }

        boolean has(int n) {
            return (in >> n & 1) != 0;
        }

        void putIn(int n) {
            in |= 1 << n;
        }

        void putOut(int n) {
            in &= ~(1 << n);
        }

        // -- what is in

        int weightIn() {
            int sum = 0;
            for (int n = 0; n < told; n++) {
                if (has(n)) {
                    sum += boxes[n].weight;
                }
            }
            return sum;
        }

        int reach() {
            int farthest = 0;
            for (int n = 0; n < told; n++) {
                if (has(n) && boxes[n].endX > farthest) {
                    farthest = boxes[n].endX;
                }
            }
            return farthest;
        }

        int cellsFilled() {
            int sum = 0;
            for (int n = 0; n < told; n++) {
                if (has(n)) {
                    sum += boxes[n].volume();
                }
            }
            return sum;
        }

        boolean carries(int n) {
            for (int m = 0; m < told; m++) {
                if (has(m) && boxes[m].areaOn(boxes[n]) > 0) {
                    return true;
                }
            }
            return false;
        }

        int supportsOf(int n) {
            int sum = 0;
            for (int m = 0; m < told; m++) {
                if (has(m) && boxes[n].areaOn(boxes[m]) > 0) {
                    sum++;
                }
            }
            return sum;
        }

        int loadOf(int n) {
            bearAll(in);
            return loads[n];
        }

        boolean fitsEmpty(int n, boolean turned) {
            Box box = boxes[n];
            if (box.height > truck.height || turned && !box.turns) {
                return false;
            }
            int length = turned ? box.width : box.length;
            int width = turned ? box.length : box.width;
            return length <= truck.length && width <= truck.width;
        }

        // -- a box at a place

        /** Tries box n at a place, without putting it in. */
        void stand(int n, int x, int y, int z, boolean turned) {
            Box box = boxes[n];
            box.moveTo(x, y, z, turned);
            commonX = commonInX(box.x, box.endX);
            commonY = commonInY(box.y, box.endY);
            commonZ = commonInZ(box.z, box.top);
        }

        /** What is wrong with the tried box n, as bits. */
        int faults(int n) {
            Box box = boxes[n];
            int bits = isInside(box) ? 0 : OUTSIDE;
            if ((commonX & commonY & commonZ) != 0) {
                bits |= THROUGH;
            }
            if (bits != 0) {
                return bits;
            }
            if (!isHeld(box)) {
                bits |= UNHELD;
            } else if (!bearAll(in | 1 << n)) {
                bits |= OVERLOADED;
            }
            return isInWay(box) ? bits | IN_WAY : bits;
        }

        private int commonInX(int from, int end) {
            int bits = 0;
            for (int n = 0; n < told; n++) {
                if (has(n) && boxes[n].x < end && from < boxes[n].endX) {
                    bits |= 1 << n;
                }
            }
            return bits;
        }

        private int commonInY(int from, int end) {
            int bits = 0;
            for (int n = 0; n < told; n++) {
                if (has(n) && boxes[n].y < end && from < boxes[n].endY) {
                    bits |= 1 << n;
                }
            }
            return bits;
        }

        private int commonInZ(int from, int end) {
            int bits = 0;
            for (int n = 0; n < told; n++) {
                if (has(n) && boxes[n].z < end && from < boxes[n].top) {
                    bits |= 1 << n;
                }
            }
            return bits;
        }

        private boolean isInside(Box box) {
            return box.endX <= truck.length && box.endY <= truck.width && box.top <= truck.height;
        }

        private boolean isHeld(Box box) {
            if (box.z == 0) {
                return true;
            }
            int held = 0;
            int near = commonX & commonY;
            for (int n = 0; n < told; n++) {
                if ((near >> n & 1) != 0) {
                    held += box.areaOn(boxes[n]);
                }
            }
            return 100 * held >= truck.share * box.length * box.width;
        }

        private boolean isInWay(Box box) {
            int beside = commonY & commonZ;
            int stacked = commonX & commonY;
            for (int n = 0; n < told; n++) {
                Box other = boxes[n];
                if (((beside | stacked) >> n & 1) == 0 || other.drop == box.drop) {
                    continue;
                }
                Box sooner = other.drop < box.drop ? other : box;
                Box later = other.drop < box.drop ? box : other;
                if ((beside >> n & 1) != 0 && later.x >= sooner.endX) {
                    return true;
                }
                if ((stacked >> n & 1) != 0 && later.z >= sooner.top) {
                    return true;
                }
            }
            return false;
        }

        // -- loads

        /**
         * Sums the loads of the boxes in bits, and says whether each bears its own. All of them are asked,
         * not only those below a new one: as rests go to the lowest numbers, taking a box out
         * can put more on one that is still in.
         */
        private boolean bearAll(int bits) {
            boolean all = true;
            Arrays.fill(loads, 0);
            for (int top = WIDEST; top > 0; top--) {
                for (int n = 0; n < told; n++) {
                    if ((bits >> n & 1) != 0 && boxes[n].top == top) {
                        all = all && loads[n] <= boxes[n].bears;
                        if (boxes[n].z > 0) {
                            giveLoad(n, bits);
                        }
                    }
                }
            }
            return all;
        }

        private void giveLoad(int n, int bits) {
            Box from = boxes[n];
            int total = 0;
            for (int m = 0; m < told; m++) {
                areas[m] = (bits >> m & 1) != 0 ? from.areaOn(boxes[m]) : 0;
                total += areas[m];
            }
            if (total <= 0) {
                return;
            }
            int sum = from.weight + loads[n];
            int left = sum;
            for (int m = 0; m < told; m++) {
                int part = sum * areas[m] / total;
                loads[m] += part;
                left -= part;
            }
            for (int m = 0; m < told && left > 0; m++) {
                if (areas[m] > 0) {
                    loads[m]++;
                    left--;
                }
            }
        }

        // -- corners

        /** Puts box n in at the first corner at which nothing is wrong; false if there is none. */
        boolean setAtCorner(int n) {
            Box box = boxes[n];
            boolean bothWays = box.turns && box.length != box.width;
            allBorne = bearAll(in);
            listCorners(box);
            for (int c = 0; c < alongZ.size; c++) {
                int z = alongZ.place[c];
                if (z + box.height > truck.height) {
                    return false;
                }
                commonZ = alongZ.straight[c];
                for (int i = 0; i < alongX.size; i++) {
                    for (int j = 0; j < alongY.size; j++) {
                        if (isFree(n, i, j, z, false) || bothWays && isFree(n, i, j, z, true)) {
                            putIn(n);
                            return true;
                        }
                    }
                }
            }
            return false;
        }

        private void listCorners(Box box) {
            long endsX = 1L;
            long endsY = 1L;
            long tops = 1L;
            for (int n = 0; n < told; n++) {
                if (has(n)) {
                    endsX |= 1L << boxes[n].endX;
                    endsY |= 1L << boxes[n].endY;
                    tops |= 1L << boxes[n].top;
                }
            }
            alongX.list(endsX);
            alongY.list(endsY);
            alongZ.list(tops);
            listCommon(box);
        }

        /** Asked once for each place of each direction, so that a corner costs only a few masks. */
        private void listCommon(Box box) {
            for (int i = 0; i < alongX.size; i++) {
                int from = alongX.place[i];
                alongX.straight[i] = commonInX(from, from + box.length) | wall(from + box.length, truck.length);
                alongX.turned[i] = commonInX(from, from + box.width) | wall(from + box.width, truck.length);
            }
            for (int j = 0; j < alongY.size; j++) {
                int from = alongY.place[j];
                alongY.straight[j] = commonInY(from, from + box.width) | wall(from + box.width, truck.width);
                alongY.turned[j] = commonInY(from, from + box.length) | wall(from + box.length, truck.width);
            }
            for (int c = 0; c < alongZ.size; c++) {
                int from = alongZ.place[c];
                alongZ.straight[c] = commonInZ(from, from + box.height);
            }
        }

        private static int wall(int end, int inside) {
            return end > inside ? PAST_WALL : 0;
        }

        /** Tries box n at the i-th x, the j-th y and z; what costs least is asked first. */
        private boolean isFree(int n, int i, int j, int z, boolean turned) {
            commonX = turned ? alongX.turned[i] : alongX.straight[i];
            commonY = turned ? alongY.turned[j] : alongY.straight[j];
            if (((commonX | commonY) & PAST_WALL) != 0 || (commonX & commonY & commonZ) != 0) {
                return false;
            }
            Box box = boxes[n];
            box.moveTo(alongX.place[i], alongY.place[j], z, turned);
            return isHeld(box) && !isInWay(box) && (touches(box) ? bearAll(in | 1 << n) : allBorne);
        }

        /** Whether the tried box stands on a placed one or holds one: else it changes no other's load and has none. */
        private boolean touches(Box box) {
            int near = commonX & commonY;
            for (int n = 0; n < told; n++) {
                if ((near >> n & 1) != 0 && (boxes[n].top == box.z || boxes[n].z == box.top)) {
                    return true;
                }
            }
            return false;
        }
    }

    /** The order that is being tried, and the best one so far. */
    private static final class Orders {
        final int[] row = new int[MOST_LISTED];
        final int[] bestRow = new int[MOST_LISTED];
        int bestSize;
        private int bestPlaced;
        private int bestReach;

        void begin() {
            bestSize = 0;
            bestPlaced = NONE;
            bestReach = 0;
        }

        /** A later row must be better: it never wins when all else is alike. */
        boolean cannotWin(int mostPlaced, int leastReach) {
            return mostPlaced < bestPlaced || mostPlaced == bestPlaced && leastReach >= bestReach;
        }

        void keep(int size, int placed, int reach) {
            bestSize = size;
            bestPlaced = placed;
            bestReach = reach;
            for (int i = 0; i < size; i++) {
                bestRow[i] = row[i];
            }
        }
    }

    /** Weights and levers at a drop; the levers are doubled, as a middle can lie at a half. */
    private static final class Balance {
        private int weight;
        private int lever;
        private int sideLever;
        /** What the axles' loads are parts of: doubled like the levers, 2 or more. */
        int below;

        void sum(Hold hold, int drop) {
            Truck truck = hold.truck;
            weight = 0;
            lever = 0;
            sideLever = 0;
            below = 2 * (truck.second - truck.first);
            for (int n = 0; n < hold.told; n++) {
                Box box = hold.boxes[n];
                if (hold.has(n) && box.drop >= drop) {
                    weight += box.weight;
                    lever += box.weight * (box.x + box.endX - 2 * truck.first);
                    sideLever += box.weight * (box.y + box.endY);
                }
            }
        }

        int front() {
            return weight * below - lever;
        }

        int rear() {
            return lever;
        }

        int overBits(Truck truck) {
            int bits = 0;
            if (front() < 0 || front() > truck.frontLimit * below) {
                bits |= 1;
            }
            if (rear() < 0 || rear() > truck.rearLimit * below) {
                bits |= 2;
            }
            int away = Math.abs(sideLever - weight * truck.width);
            if (100 * away > truck.sideLimit * truck.width * weight) {
                bits |= 4;
            }
            return bits;
        }
    }

    /**
     * The cuts of blocks. A block is one number: length, width and height, each less one, four bits each;
     * and so is a spot in a block: x, y, z.
     */
    private static final class Cutter {
        private static final int BLOCKS = 4096;
        private static final int DIRECTION_BITS = 15;
        /** A part ahead is at most half of its block: no size can be halved more than four times. */
        private static final int DEEPEST = 16;
        /** Each step of laying shortens the block: no more than its three sizes together. */
        private static final int MOST_STEPS = 48;

        private final int[] worths = new int[BLOCKS];
        /** Piece by piece: the box, whether it is turned, and the spot. */
        private final int[] pattern = new int[BLOCKS];
        /** The block up to which all worths are known. */
        private int known = NONE;
        private int latest = NONE;
        /** How many pieces the latest cut's pattern has; NONE as long as nobody has asked. */
        private int pieces = NONE;

        void forget() {
            known = NONE;
            latest = NONE;
            pieces = NONE;
        }

        int mostWorth(Hold hold, int length, int width, int height) {
            latest = blockOf(length, width, height);
            pieces = NONE;
            int wanted = known == NONE ? latest : greaterOf(known, latest);
            if (wanted != known) {
                fillWorths(hold, wanted);
                known = wanted;
            }
            return worths[latest];
        }

        int tell(Hold hold, int i, int what) {
            if (latest == NONE) {
                return NONE;
            }
            if (pieces == NONE) {
                pieces = 0;
                layOut(hold, latest, 0, 0);
            }
            if (i < 0 || i >= pieces) {
                return NONE;
            }
            int piece = pattern[i];
            switch (what) {
                case 0: return piece >> 13;
                case 1: return piece >> 8 & DIRECTION_BITS;
                case 2: return piece >> 4 & DIRECTION_BITS;
                case 3: return piece & DIRECTION_BITS;
                case 4: return piece >> 12 & 1;
                default: return NONE;
            }
        }

        private static int blockOf(int length, int width, int height) {
            return ((length - 1) << 8) | ((width - 1) << 4) | (height - 1);
        }

        /** The least block that has both in it. */
        private static int greaterOf(int one, int other) {
            int both = 0;
            for (int shift = 8; shift >= 0; shift -= 4) {
                int size = Math.max(one >> shift & DIRECTION_BITS, other >> shift & DIRECTION_BITS);
                both |= size << shift;
            }
            return both;
        }

        private void fillWorths(Hold hold, int most) {
            Arrays.fill(worths, 0);
            for (int n = 0; n < hold.told; n++) {
                Box box = hold.boxes[n];
                offer(blockOf(box.length, box.width, box.height), box.worth);
                if (box.turns) {
                    offer(blockOf(box.width, box.length, box.height), box.worth);
                }
            }
            for (int l = 0; l <= most >> 8; l++) {
                for (int w = 0; w <= (most >> 4 & DIRECTION_BITS); w++) {
                    for (int h = 0; h <= (most & DIRECTION_BITS); h++) {
                        int block = (l << 8) | (w << 4) | h;
                        offer(block, worthCut(block));
                    }
                }
            }
        }

        private void offer(int block, int worth) {
            if (worth > worths[block]) {
                worths[block] = worth;
            }
        }

        /** The most worth of a block that is cut; beyond its half the same parts only change places. */
        private int worthCut(int block) {
            int most = 0;
            for (int shift = 8; shift >= 0; shift -= 4) {
                int size = (block >> shift & DIRECTION_BITS) + 1;
                for (int part = 1; 2 * part <= size; part++) {
                    int worth = worths[aheadOf(block, part, shift)] + worths[block - (part << shift)];
                    if (worth > most) {
                        most = worth;
                    }
                }
            }
            return most;
        }

        private static int aheadOf(int block, int part, int shift) {
            return (block & ~(DIRECTION_BITS << shift)) | ((part - 1) << shift);
        }

        /** Lays out the pattern of a block: the parts ahead go deeper, the parts behind go on here. */
        private void layOut(Hold hold, int block, int spot, int depth) {
            int rest = block;
            int from = spot;
            for (int step = 0; step < MOST_STEPS && depth < DEEPEST; step++) {
                if (worths[rest] == 0 || layPiece(hold, rest, from)) {
                    return;
                }
                int cut = firstCut(rest);
                int shift = cut & DIRECTION_BITS;
                int part = cut >> 4;
                if (part < 1) {
                    return;
                }
                layOut(hold, aheadOf(rest, part, shift), from, depth + 1);
                rest -= part << shift;
                from += part << shift;
            }
        }

        /** Lays the block as a piece, if there is one with all its worth. */
        private boolean layPiece(Hold hold, int block, int spot) {
            for (int n = 0; n < hold.told; n++) {
                Box box = hold.boxes[n];
                if (box.worth != worths[block]) {
                    continue;
                }
                boolean straight = blockOf(box.length, box.width, box.height) == block;
                if (straight || box.turns && blockOf(box.width, box.length, box.height) == block) {
                    if (pieces >= 0 && pieces < BLOCKS) {
                        pattern[pieces] = (n << 13) | ((straight ? 0 : 1) << 12) | spot;
                        pieces++;
                    }
                    return true;
                }
            }
            return false;
        }

        /** The first cut with which the block's worth is had: the part ahead, and behind it the shift; 0 for none. */
        private int firstCut(int block) {
            for (int shift = 8; shift >= 0; shift -= 4) {
                int size = (block >> shift & DIRECTION_BITS) + 1;
                for (int part = 1; 2 * part <= size; part++) {
                    if (worths[aheadOf(block, part, shift)] + worths[block - (part << shift)] == worths[block]) {
                        return (part << 4) | shift;
                    }
                }
            }
            return 0;
        }
    }

    /** How many trucks there must be at least, and what shows it. */
    private static final class Bounds {
        boolean judged;
        int byVolume;
        int byBig;
        /** Of the greatest sets of boxes that are all apart, the least as bits. */
        int bigOnes;
        private final int[] leastLength = new int[MOST_BOXES];
        private final int[] leastWidth = new int[MOST_BOXES];
        private final int[] apart = new int[MOST_BOXES];

        /** Each box of the set must be one that fits. */
        void judge(Hold hold, int set) {
            int room = hold.truck.length * hold.truck.width * hold.truck.height;
            int volume = 0;
            for (int n = 0; n < hold.told; n++) {
                if ((set >> n & 1) != 0) {
                    volume += hold.boxes[n].volume();
                    measure(hold, n);
                }
            }
            judged = true;
            byVolume = room < 1 ? 0 : (volume + room - 1) / room;
            byBig = 0;
            bigOnes = 0;
            findApart(hold, set);
            findBig(set, 0, hold.told);
        }

        /** Two boxes turn independently: they are apart just if they are with each one's least sizes. */
        private void measure(Hold hold, int n) {
            Box box = hold.boxes[n];
            boolean straight = hold.fitsEmpty(n, false);
            boolean turned = hold.fitsEmpty(n, true);
            leastLength[n] = straight ? box.length : box.width;
            leastWidth[n] = straight ? box.width : box.length;
            if (straight && turned) {
                leastLength[n] = Math.min(box.length, box.width);
                leastWidth[n] = leastLength[n];
            }
        }

        private void findApart(Hold hold, int set) {
            for (int n = 0; n < hold.told; n++) {
                apart[n] = 0;
                for (int m = 0; m < hold.told; m++) {
                    if (m != n && (set >> n & 1) != 0 && (set >> m & 1) != 0 && areApart(hold, n, m)) {
                        apart[n] |= 1 << m;
                    }
                }
            }
        }

        private boolean areApart(Hold hold, int n, int m) {
            Truck truck = hold.truck;
            return leastLength[n] + leastLength[m] > truck.length
                    && leastWidth[n] + leastWidth[m] > truck.width
                    && hold.boxes[n].height + hold.boxes[m].height > truck.height;
        }

        /**
         * Tries the sets of open boxes below the given number that go with the chosen ones, in rising order
         * (the highest box is left out first), so that the first of a size is the least.
         */
        private void findBig(int open, int chosen, int below) {
            int size = Integer.bitCount(chosen);
            if (size + Integer.bitCount(open) <= byBig) {
                return;
            }
            int highest = below - 1;
            while (highest >= 0 && (open >> highest & 1) == 0) {
                highest--;
            }
            if (highest < 0) {
                byBig = size;
                bigOnes = chosen;
                return;
            }
            findBig(open & ~(1 << highest), chosen, highest);
            findBig(open & apart[highest], chosen | 1 << highest, highest);
        }
    }
}
