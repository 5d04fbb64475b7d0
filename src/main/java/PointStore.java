/** A store of points on a disk, as ../shared/DOC.md promises it; words in capitals are that document's. */
public final class PointStore {
    public static final int NONE = -1;
    public static final int OFF = -2;

    private static final int MOST_BLOCKS = 400;
    private static final int MOST_BUCKET = 8;
    private static final int MOST_BITS = 15;
    private static final int MOST_PLACE = 65535;
    private static final int MOST_CHANGES = 60;
    private static final int MOST_RESULTS = 150;
    // One insert a call and 512 calls: no more POINTS than this can ever be there.
    private static final int MOST_POINTS = 512;

    // A place as one number, x above y, so that numbers in order are places in ORDER.
    private static final int LOW_PLACE = (1 << MOST_BITS) - 1;
    private static final int BEYOND_ALL_KEYS = 1 << (2 * MOST_BITS);

    private static final int DONE = 0;
    private static final int REPLACED = 1;
    private static final int OUTSIDE = 2;
    private static final int TOO_MANY_CHANGES = 3;
    private static final int NO_BLOCK = 4;
    private static final int NOT_THERE = 5;

    private static final int AHEAD = 0;
    private static final int BEHIND = 1;
    private static final int AGAIN = 2;
    private static final int DISARM = 3;
    private static final int ALL_PARTS = 256;

    private final int blocks;
    private final int bucket;
    private final int span;
    private final Disk disk;
    private final Points pending;
    private final Tree pendingTree;
    private final Tree committedTree;
    private final Changes changes;
    private final Results results;
    private boolean powered;
    private int cut;
    private int cutParts;

    public PointStore(int blocks, int bucket, int bits) {
        int goodBlocks = fromOneTo(MOST_BLOCKS, blocks, 64);
        int goodBucket = fromOneTo(MOST_BUCKET, bucket, 4);
        int goodBits = fromOneTo(MOST_BITS, bits, 8);
        Points pendingPoints = new Points();
        Points home = new Points();
        this.blocks = goodBlocks;
        this.bucket = goodBucket;
        this.span = 1 << goodBits;
        this.disk = new Disk(home);
        this.pending = pendingPoints;
        this.pendingTree = new Tree(pendingPoints, goodBlocks, goodBucket, goodBits);
        this.committedTree = new Tree(home, goodBlocks, goodBucket, goodBits);
        this.changes = new Changes();
        this.results = new Results();
        this.powered = true;
        this.cut = NONE;
        this.cutParts = 0;
    }

    public int insert(int x, int y, int value) {
        if (!powered) {
            return OFF;
        }
        if (!isOnPlane(x, y) || value < 0) {
            return OUTSIDE;
        }
        if (changes.isFull()) {
            return TOO_MANY_CHANGES;
        }
        int key = keyOf(x, y);
        boolean wasThere = pending.valueOf(key) != NONE;
        if (wasThere) {
            pending.put(key, value);
        } else if (!comesIn(key, value)) {
            return NO_BLOCK;
        }
        changes.add(key, value);
        return wasThere ? REPLACED : DONE;
    }

    public int delete(int x, int y) {
        if (!powered) {
            return OFF;
        }
        if (!isOnPlane(x, y)) {
            return OUTSIDE;
        }
        int key = keyOf(x, y);
        if (pending.valueOf(key) == NONE) {
            return NOT_THERE;
        }
        if (changes.isFull()) {
            return TOO_MANY_CHANGES;
        }
        pending.takeOut(key);
        changes.add(key, NONE);
        return DONE;
    }

    public int get(int state, int x, int y) {
        if (!powered) {
            return OFF;
        }
        Points points = pointsOf(state);
        if (points == null || !isOnPlane(x, y)) {
            return NONE;
        }
        return points.valueOf(keyOf(x, y));
    }

    public int window(int state, int x0, int y0, int x1, int y1) {
        if (!powered) {
            return OFF;
        }
        Points points = pointsOf(state);
        if (points == null) {
            return NONE;
        }
        results.clear();
        int found = 0;
        for (int i = 0; i < points.total; i++) {
            if (isWithin(points.keys[i], x0, y0, x1, y1)) {
                results.add(points.keys[i], points.values[i]);
                found++;
            }
        }
        return found;
    }

    public int nearest(int state, int x, int y, int k) {
        if (!powered) {
            return OFF;
        }
        Points points = pointsOf(state);
        if (points == null || !isPlace(x) || !isPlace(y) || k < 1 || k > MOST_RESULTS) {
            return NONE;
        }
        results.clear();
        for (int i = 0; i < points.total; i++) {
            int key = points.keys[i];
            results.addByDistance(key, points.values[i], distance(key, x, y), k);
        }
        return results.total;
    }

    public int differs() {
        if (!powered) {
            return OFF;
        }
        Points committed = disk.home;
        results.clear();
        int found = 0;
        int atPending = 0;
        int atCommitted = 0;
        int most = pending.total + committed.total;
        for (int pass = 0; pass < most; pass++) {
            int key = Math.min(pending.keyAt(atPending), committed.keyAt(atCommitted));
            if (key == BEYOND_ALL_KEYS) {
                break;
            }
            int now = NONE;
            int before = NONE;
            if (pending.keyAt(atPending) == key) {
                now = pending.values[atPending];
                atPending++;
            }
            if (committed.keyAt(atCommitted) == key) {
                before = committed.values[atCommitted];
                atCommitted++;
            }
            if (now != before) {
                results.add(key, now);
                found++;
            }
        }
        return found;
    }

    public int result(int i, int what) {
        if (i < 0 || i >= results.total) {
            return NONE;
        }
        switch (what) {
            case 0:
                return xOf(results.keys[i]);
            case 1:
                return yOf(results.keys[i]);
            case 2:
                return results.values[i];
            default:
                return NONE;
        }
    }

    public int size() {
        return results.total;
    }

    public long sum(int state, int x0, int y0, int x1, int y1) {
        if (!powered) {
            return OFF;
        }
        Points points = pointsOf(state);
        if (points == null) {
            return 0;
        }
        long values = 0;
        for (int i = 0; i < points.total; i++) {
            if (isWithin(points.keys[i], x0, y0, x1, y1)) {
                values += points.values[i];
            }
        }
        return values;
    }

    public int commit() {
        if (!powered) {
            return OFF;
        }
        int made = changes.total;
        if (made > 0 && !writeChanges()) {
            return OFF;
        }
        changes.clear();
        return made;
    }

    public int abort() {
        if (!powered) {
            return OFF;
        }
        int made = changes.total;
        pending.copyFrom(disk.home);
        changes.clear();
        return made;
    }

    public int format() {
        if (!powered) {
            return OFF;
        }
        changes.clear();
        changes.add(Changes.EVERY_POINT, NONE);
        if (!writeChanges()) {
            return OFF;
        }
        changes.clear();
        pending.clear();
        return 0;
    }

    public boolean arm(int what, int n) {
        if (what == DISARM) {
            cut = NONE;
            return true;
        }
        if (what < AHEAD || what > AGAIN || n < 0 || n > ALL_PARTS) {
            return false;
        }
        cut = what;
        cutParts = n;
        return true;
    }

    public int recover() {
        if (cut == AGAIN) {
            disk.writeHome(cutParts);
            losePower();
            return OFF;
        }
        disk.writeHome(ALL_PARTS);
        disk.end();
        pending.copyFrom(disk.home);
        changes.clear();
        results.clear();
        powered = true;
        return 0;
    }

    public int node(int state, int k, int what) {
        if (!powered) {
            return OFF;
        }
        Tree tree = treeOf(state);
        if (tree == null) {
            return NONE;
        }
        return tree.upToDate().factOf(k, what);
    }

    public int count(int what) {
        if (!powered) {
            return OFF;
        }
        switch (what) {
            case 0:
                return pending.total;
            case 1:
                return disk.home.total;
            case 2:
                return pendingTree.upToDate().nodes;
            case 3:
                return committedTree.upToDate().nodes;
            case 4:
                return blocks - pendingTree.upToDate().nodes;
            case 5:
                return changes.total;
            case 6:
                return pendingTree.upToDate().depth;
            case 7:
                return cut;
            case 8:
                return blocks;
            case 9:
                return bucket;
            case 10:
                return span;
            default:
                return NONE;
        }
    }

    // The TREE hangs on the POINTS alone, so the way to see what it takes is to have the new one in it.
    private boolean comesIn(int key, int value) {
        if (pending.isFull()) {
            return false;
        }
        pending.put(key, value);
        if (pendingTree.upToDate().nodes > blocks) {
            pending.takeOut(key);
            return false;
        }
        return true;
    }

    // A CUT ahead of the seal leaves HOME untouched, one behind it leaves a log that does the rest.
    private boolean writeChanges() {
        if (cut == AHEAD) {
            disk.writeLog(changes, cutParts);
            losePower();
            return false;
        }
        disk.writeLog(changes, ALL_PARTS);
        disk.seal(changes.total);
        if (cut == BEHIND) {
            disk.writeHome(cutParts);
            losePower();
            return false;
        }
        disk.writeHome(ALL_PARTS);
        disk.end();
        return true;
    }

    private void losePower() {
        powered = false;
        cut = NONE;
        pending.clear();
        changes.clear();
        results.clear();
    }

    private Points pointsOf(int state) {
        if (state == 0) {
            return pending;
        }
        return state == 1 ? disk.home : null;
    }

    private Tree treeOf(int state) {
        if (state == 0) {
            return pendingTree;
        }
        return state == 1 ? committedTree : null;
    }

    private boolean isOnPlane(int x, int y) {
        return x >= 0 && x < span && y >= 0 && y < span;
    }

    private static boolean isPlace(int along) {
        return along >= 0 && along <= MOST_PLACE;
    }

    private static int fromOneTo(int most, int asked, int otherwise) {
        return asked >= 1 && asked <= most ? asked : otherwise;
    }

    private static int keyOf(int x, int y) {
        return (x << MOST_BITS) | y;
    }

    private static int xOf(int key) {
        return key >> MOST_BITS;
    }

    private static int yOf(int key) {
        return key & LOW_PLACE;
    }

    private static boolean isWithin(int key, int x0, int y0, int x1, int y1) {
        int x = xOf(key);
        int y = yOf(key);
        return x0 <= x && x <= x1 && y0 <= y && y <= y1;
    }

    // A long, as the squares of 65535 do not fit into an int.
    private static long distance(int key, int x, int y) {
        long acrossX = xOf(key) - x;
        long acrossY = yOf(key) - y;
        return acrossX * acrossX + acrossY * acrossY;
    }

    /** A STATE: its POINTS in ORDER. */
    private static final class Points {
        final int[] keys = new int[MOST_POINTS];
        final int[] values = new int[MOST_POINTS];
        int total = 0;
        // Tells a TREE that was made of these POINTS whether it still fits them.
        int version = 0;

        boolean isFull() {
            return total >= MOST_POINTS;
        }

        int keyAt(int i) {
            return i >= 0 && i < total ? keys[i] : BEYOND_ALL_KEYS;
        }

        int valueOf(int key) {
            int at = placeOf(key);
            return keyAt(at) == key ? values[at] : NONE;
        }

        void put(int key, int value) {
            int at = placeOf(key);
            if (keyAt(at) != key) {
                if (isFull()) {
                    return;
                }
                System.arraycopy(keys, at, keys, at + 1, total - at);
                System.arraycopy(values, at, values, at + 1, total - at);
                keys[at] = key;
                total++;
            }
            values[at] = value;
            version++;
        }

        void takeOut(int key) {
            int at = placeOf(key);
            if (keyAt(at) != key) {
                return;
            }
            System.arraycopy(keys, at + 1, keys, at, total - at - 1);
            System.arraycopy(values, at + 1, values, at, total - at - 1);
            total--;
            version++;
        }

        void clear() {
            total = 0;
            version++;
        }

        void copyFrom(Points other) {
            System.arraycopy(other.keys, 0, keys, 0, other.total);
            System.arraycopy(other.values, 0, values, 0, other.total);
            total = other.total;
            version++;
        }

        // How many keys are below this one, found bit by bit from the highest.
        private int placeOf(int key) {
            int at = 0;
            for (int step = MOST_POINTS; step > 0; step >>= 1) {
                if (at + step <= total && keys[at + step - 1] < key) {
                    at += step;
                }
            }
            return at;
        }
    }

    /** THE TREE of a STATE, made anew when it is asked for and the POINTS are others than before. */
    private static final class Tree {
        private static final int FACTS = 6;
        private static final int LOW_BITS = 65535;

        private final Points points;
        private final int bucket;
        private final int bits;
        // One more than BLOCKS: enough to see that a TREE is too large.
        private final int mostNodes;
        private final int[] facts;
        // The numbers of the POINTS, those of one REGION side by side.
        private final int[] order = new int[MOST_POINTS];
        int nodes = 0;
        int depth = 0;
        private int madeOf = NONE;

        Tree(Points points, int blocks, int bucket, int bits) {
            this.points = points;
            this.bucket = bucket;
            this.bits = bits;
            this.mostNodes = blocks + 1;
            this.facts = new int[FACTS * (blocks + 1)];
        }

        Tree upToDate() {
            if (madeOf != points.version) {
                for (int i = 0; i < points.total; i++) {
                    order[i] = i;
                }
                nodes = 0;
                depth = 0;
                grow(this, 0, points.total, 0, 0, 0);
                madeOf = points.version;
            }
            return this;
        }

        int factOf(int k, int what) {
            if (k < 0 || k >= nodes || what < 0 || what >= FACTS) {
                return NONE;
            }
            return facts[k * FACTS + what];
        }

        // Makes the NODE of the POINTS order[from] to order[to - 1], and then all below it.
        private static void grow(Tree tree, int from, int to, int lowX, int lowY, int level) {
            if (level > tree.bits || tree.nodes >= tree.mostNodes) {
                return;
            }
            int side = 1 << (tree.bits - level);
            int at = tree.nodes * FACTS;
            tree.nodes++;
            tree.depth = Math.max(tree.depth, level);
            tree.facts[at] = side;
            tree.facts[at + 1] = lowX;
            tree.facts[at + 2] = lowY;
            tree.facts[at + 3] = to - from;
            tree.facts[at + 4] = 0;
            tree.facts[at + 5] = tree.lowBitsOf(from, to);
            if (to - from <= tree.bucket) {
                return;
            }
            int half = side >> 1;
            int begin = from;
            for (int quarter = 0; quarter < 4; quarter++) {
                int right = (quarter & 1) * half;
                int up = (quarter >> 1) * half;
                int end = tree.gather(begin, to, keyOf(half, half), keyOf(right, up));
                if (end > begin) {
                    tree.facts[at + 4] |= 1 << quarter;
                    grow(tree, begin, end, lowX + right, lowY + up, level + 1);
                }
                begin = end;
            }
        }

        // Brings the POINTS of a quarter ahead of the others from begin to end; tells where they end.
        // As all are of one NODE, a bit of x and one of y tell them apart: its half, which is a power of 2.
        private int gather(int begin, int end, int bitsAtHalf, int wanted) {
            int next = begin;
            for (int i = begin; i < end; i++) {
                int point = order[i];
                if ((points.keys[point] & bitsAtHalf) == wanted) {
                    order[i] = order[next];
                    order[next] = point;
                    next++;
                }
            }
            return next;
        }

        private int lowBitsOf(int from, int to) {
            int bitsTogether = 0;
            for (int i = from; i < to; i++) {
                bitsTogether += points.values[order[i]] & LOW_BITS;
            }
            return bitsTogether;
        }
    }

    /** CHANGES in the order in which they were made: a place with its new VALUE, NONE if its POINT leaves. */
    private static final class Changes {
        // Instead of a place: every POINT leaves.
        static final int EVERY_POINT = -1;

        final int[] keys = new int[MOST_CHANGES];
        final int[] values = new int[MOST_CHANGES];
        int total = 0;

        boolean isFull() {
            return total >= MOST_CHANGES;
        }

        void add(int key, int value) {
            if (isFull()) {
                return;
            }
            keys[total] = key;
            values[total] = value;
            total++;
        }

        void clear() {
            total = 0;
        }
    }

    /** What outlasts the power: the COMMITTED STATE at HOME, and the LOG, which binds if it is sealed. */
    private static final class Disk {
        final Points home;
        private final int[] logKeys = new int[MOST_CHANGES];
        private final int[] logValues = new int[MOST_CHANGES];
        // How many CHANGES the SEAL vouches for; 0 if there is no SEAL.
        private int sealed = 0;

        Disk(Points home) {
            this.home = home;
        }

        void writeLog(Changes changes, int parts) {
            int whole = changes.total * parts / ALL_PARTS;
            System.arraycopy(changes.keys, 0, logKeys, 0, whole);
            System.arraycopy(changes.values, 0, logValues, 0, whole);
            if (whole < changes.total) {
                // The one at hand when the power goes: one half of it is new, the other one is not.
                logKeys[whole] = changes.keys[whole];
            }
        }

        void seal(int total) {
            sealed = total;
        }

        // Begins with the first CHANGE each time: the last one of a place decides, however often it is written.
        void writeHome(int parts) {
            int whole = sealed * parts / ALL_PARTS;
            for (int i = 0; i < whole; i++) {
                writeAtHome(logKeys[i], logValues[i]);
            }
        }

        void end() {
            sealed = 0;
        }

        private void writeAtHome(int key, int value) {
            if (key == Changes.EVERY_POINT) {
                home.clear();
            } else if (value == NONE) {
                home.takeOut(key);
            } else {
                home.put(key, value);
            }
        }
    }

    /** The RESULTS: the POINTS that the latest question found, as they were then. */
    private static final class Results {
        final int[] keys = new int[MOST_RESULTS];
        final int[] values = new int[MOST_RESULTS];
        private final long[] distances = new long[MOST_RESULTS];
        int total = 0;

        void clear() {
            total = 0;
        }

        void add(int key, int value) {
            if (total < MOST_RESULTS) {
                keys[total] = key;
                values[total] = value;
                total++;
            }
        }

        // Offered in ORDER, a POINT comes behind those that are as near, and the farthest one falls out.
        void addByDistance(int key, int value, long distance, int most) {
            int at = total;
            for (int i = total - 1; i >= 0 && distances[i] > distance; i--) {
                at = i;
            }
            if (at >= most || at >= MOST_RESULTS) {
                return;
            }
            int kept = Math.min(total, Math.min(most, MOST_RESULTS) - 1);
            System.arraycopy(keys, at, keys, at + 1, kept - at);
            System.arraycopy(values, at, values, at + 1, kept - at);
            System.arraycopy(distances, at, distances, at + 1, kept - at);
            keys[at] = key;
            values[at] = value;
            distances[at] = distance;
            total = kept + 1;
        }
    }
}
