import java.util.ArrayList;
import java.util.Comparator;
import java.util.List;
import java.util.Random;
import java.util.TreeMap;

/**
 * Runs of 512 calls, drawn from fixed seeds, and every short row of calls with cuts and recoveries, against a slow
 * model that follows the document word by word.
 */
public final class ModelTest {
    private static final int RUNS = 1500;
    private static final int CALLS = 512;
    private static final int NONE = -1;
    private static final int OFF = -2;

    private record Point(int x, int y, int value) {
    }

    private record Node(int side, int x, int y, int points, int children, int low, int depth) {
        int told(int what) {
            return switch (what) {
                case 0 -> side;
                case 1 -> x;
                case 2 -> y;
                case 3 -> points;
                case 4 -> children;
                case 5 -> low;
                default -> NONE;
            };
        }
    }

    private static final Comparator<Point> ORDER = Comparator.comparingInt(Point::x).thenComparingInt(Point::y);

    private static final class Model {
        final int blocks;
        final int bucket;
        final int span;
        TreeMap<Long, Point> pending = new TreeMap<>();
        TreeMap<Long, Point> committed = new TreeMap<>();
        List<Point> results = new ArrayList<>();
        int changes = 0;
        int cut = NONE;
        boolean off = false;

        Model(int blocks, int bucket, int bits) {
            this.blocks = blocks < 1 || blocks > 400 ? 64 : blocks;
            this.bucket = bucket < 1 || bucket > 8 ? 4 : bucket;
            this.span = 1 << (bits < 1 || bits > 15 ? 8 : bits);
        }

        static long at(int x, int y) {
            return x * 100000L + y;
        }

        boolean outside(int x, int y) {
            return x < 0 || y < 0 || x >= span || y >= span;
        }

        TreeMap<Long, Point> state(int state) {
            return state == 0 ? pending : state == 1 ? committed : null;
        }

        List<Node> tree(TreeMap<Long, Point> state) {
            List<Node> nodes = new ArrayList<>();
            grow(nodes, new ArrayList<>(state.values()), span, 0, 0, 0);
            return nodes;
        }

        void grow(List<Node> nodes, List<Point> points, int side, int x, int y, int depth) {
            int me = nodes.size();
            nodes.add(null);
            int children = 0;
            if (points.size() > bucket) {
                int half = side / 2;
                int[] lowX = {x, x + half, x, x + half};
                int[] lowY = {y, y, y + half, y + half};
                for (int q = 0; q < 4; q++) {
                    int qx = lowX[q];
                    int qy = lowY[q];
                    List<Point> part = points.stream().filter(
                        p -> p.x() >= qx && p.x() < qx + half && p.y() >= qy && p.y() < qy + half).toList();
                    if (!part.isEmpty()) {
                        children += 1 << q;
                        grow(nodes, part, half, qx, qy, depth + 1);
                    }
                }
            }
            int low = points.stream().mapToInt(p -> p.value() % 65536).sum();
            nodes.set(me, new Node(side, x, y, points.size(), children, low, depth));
        }

        int insert(int x, int y, int value) {
            if (off) {
                return OFF;
            }
            if (outside(x, y) || value < 0) {
                return 2;
            }
            if (changes == 60) {
                return 3;
            }
            Point old = pending.put(at(x, y), new Point(x, y, value));
            if (old == null && tree(pending).size() > blocks) {
                pending.remove(at(x, y));
                return 4;
            }
            changes++;
            return old == null ? 0 : 1;
        }

        int delete(int x, int y) {
            if (off) {
                return OFF;
            }
            if (outside(x, y)) {
                return 2;
            }
            if (!pending.containsKey(at(x, y))) {
                return 5;
            }
            if (changes == 60) {
                return 3;
            }
            pending.remove(at(x, y));
            changes++;
            return 0;
        }

        int get(int state, int x, int y) {
            if (off) {
                return OFF;
            }
            if (state(state) == null || outside(x, y)) {
                return NONE;
            }
            Point p = state(state).get(at(x, y));
            return p == null ? NONE : p.value();
        }

        List<Point> inside(int state, int x0, int y0, int x1, int y1) {
            return state(state).values().stream().filter(
                p -> x0 <= p.x() && p.x() <= x1 && y0 <= p.y() && p.y() <= y1).toList();
        }

        int window(int state, int x0, int y0, int x1, int y1) {
            if (off) {
                return OFF;
            }
            if (state(state) == null) {
                return NONE;
            }
            List<Point> found = inside(state, x0, y0, x1, y1);
            results = found.stream().limit(150).toList();
            return found.size();
        }

        long sum(int state, int x0, int y0, int x1, int y1) {
            if (off) {
                return OFF;
            }
            return state(state) == null ? 0 : inside(state, x0, y0, x1, y1).stream().mapToLong(Point::value).sum();
        }

        int nearest(int state, int x, int y, int k) {
            if (off) {
                return OFF;
            }
            if (state(state) == null || x < 0 || x > 65535 || y < 0 || y > 65535 || k < 1 || k > 150) {
                return NONE;
            }
            Comparator<Point> near = Comparator.comparingLong(
                p -> (long) (p.x() - x) * (p.x() - x) + (long) (p.y() - y) * (p.y() - y));
            results = state(state).values().stream().sorted(near.thenComparing(ORDER)).limit(k).toList();
            return results.size();
        }

        int differs() {
            if (off) {
                return OFF;
            }
            TreeMap<Long, Point> places = new TreeMap<>(committed);
            places.putAll(pending);
            List<Point> found = new ArrayList<>();
            for (Point p : places.values()) {
                long at = at(p.x(), p.y());
                Point now = pending.get(at);
                Point then = committed.get(at);
                if (now == null || then == null || now.value() != then.value()) {
                    found.add(new Point(p.x(), p.y(), now == null ? NONE : now.value()));
                }
            }
            results = found.stream().limit(150).toList();
            return found.size();
        }

        int result(int i, int what) {
            if (i < 0 || i >= results.size() || what < 0 || what > 2) {
                return NONE;
            }
            Point p = results.get(i);
            return what == 0 ? p.x() : what == 1 ? p.y() : p.value();
        }

        boolean powerGoes(TreeMap<Long, Point> become) {
            if (cut != 0) {
                committed = become;
            }
            if (cut == 0 || cut == 1) {
                goOff();
                return true;
            }
            return false;
        }

        void goOff() {
            off = true;
            cut = NONE;
            results = List.of();
        }

        int commit() {
            if (off) {
                return OFF;
            }
            if (changes > 0 && powerGoes(new TreeMap<>(pending))) {
                return OFF;
            }
            int were = changes;
            changes = 0;
            return were;
        }

        int abort() {
            if (off) {
                return OFF;
            }
            pending = new TreeMap<>(committed);
            int were = changes;
            changes = 0;
            return were;
        }

        int format() {
            if (off) {
                return OFF;
            }
            if (powerGoes(new TreeMap<>())) {
                return OFF;
            }
            pending = new TreeMap<>();
            changes = 0;
            return 0;
        }

        boolean arm(int what, int n) {
            if (what == 3) {
                cut = NONE;
                return true;
            }
            if (what < 0 || what > 2 || n < 0 || n > 256) {
                return false;
            }
            cut = what;
            return true;
        }

        int recover() {
            if (cut == 2) {
                goOff();
                return OFF;
            }
            off = false;
            results = List.of();
            pending = new TreeMap<>(committed);
            changes = 0;
            return 0;
        }

        int node(int state, int k, int what) {
            if (off) {
                return OFF;
            }
            if (state(state) == null) {
                return NONE;
            }
            List<Node> nodes = tree(state(state));
            return k < 0 || k >= nodes.size() ? NONE : nodes.get(k).told(what);
        }

        int count(int what) {
            if (off) {
                return OFF;
            }
            return switch (what) {
                case 0 -> pending.size();
                case 1 -> committed.size();
                case 2 -> tree(pending).size();
                case 3 -> tree(committed).size();
                case 4 -> blocks - tree(pending).size();
                case 5 -> changes;
                case 6 -> tree(pending).stream().mapToInt(Node::depth).max().getAsInt();
                case 7 -> cut;
                case 8 -> blocks;
                case 9 -> bucket;
                case 10 -> span;
                default -> NONE;
            };
        }
    }

    /** One run: how often each kind of call comes and how far places spread hangs on its seed. */
    private static final class Run {
        final int seed;
        final Random random;
        final PointStore store;
        final Model model;
        final int spread;
        final int cutsOf100;
        final int writesOf100;
        int wrong = 0;

        Run(int seed) {
            this.seed = seed;
            random = new Random(seed);
            int blocks = random.nextInt(3) == 0 ? 1 + random.nextInt(12) : random.nextInt(402);
            int bucket = random.nextInt(10);
            int bits = random.nextInt(3) == 0 ? random.nextInt(5) : random.nextInt(17);
            store = new PointStore(blocks, bucket, bits);
            model = new Model(blocks, bucket, bits);
            spread = random.nextBoolean() ? model.span : Math.min(model.span, 2 << random.nextInt(5));
            cutsOf100 = random.nextInt(3) * 20;
            writesOf100 = random.nextBoolean() ? 20 : 2;
        }

        int odd(int ordinary) {
            int[] others = {-1, Integer.MIN_VALUE, Integer.MAX_VALUE, model.span, model.span - 1, 65535, 65536, 2, 150, 151};
            return random.nextInt(40) == 0 ? others[random.nextInt(others.length)] : ordinary;
        }

        int place() {
            return odd(random.nextInt(spread));
        }

        int state() {
            return odd(random.nextInt(2));
        }

        int value() {
            return odd(random.nextBoolean() ? random.nextInt(3) : random.nextInt() & 0x7fffffff);
        }

        void due(String call, long got, long want) {
            if (got != want && wrong++ < 5) {
                System.out.println("seed " + seed + ": " + call + " answered " + got + ", due is " + want);
            }
        }

        void oneCall() {
            int kind = random.nextInt(100);
            if (kind < 45) {
                int x = place();
                int y = place();
                int v = value();
                due("insert(" + x + ", " + y + ", " + v + ")", store.insert(x, y, v), model.insert(x, y, v));
            } else if (kind < 57) {
                int[] at = somePlace();
                due("delete(" + at[0] + ", " + at[1] + ")", store.delete(at[0], at[1]), model.delete(at[0], at[1]));
            } else if (kind < 100 - writesOf100) {
                ask();
            } else {
                writeOrCut();
            }
        }

        int[] somePlace() {
            List<Point> there = new ArrayList<>(model.pending.values());
            if (there.isEmpty() || random.nextInt(4) == 0) {
                return new int[] {place(), place()};
            }
            Point p = there.get(random.nextInt(there.size()));
            return new int[] {p.x(), p.y()};
        }

        void ask() {
            int s = state();
            int a = place();
            int b = place();
            switch (random.nextInt(7)) {
                case 0 -> {
                    int[] at = somePlace();
                    due("get", store.get(s, at[0], at[1]), model.get(s, at[0], at[1]));
                }
                case 1 -> {
                    int c = place();
                    int d = place();
                    due("window", store.window(s, a, b, c, d), model.window(s, a, b, c, d));
                    sameResults();
                }
                case 2 -> {
                    int c = place();
                    int d = place();
                    due("sum", store.sum(s, a, b, c, d), model.sum(s, a, b, c, d));
                }
                case 3 -> {
                    int k = odd(random.nextInt(152));
                    due("nearest", store.nearest(s, a, b, k), model.nearest(s, a, b, k));
                    sameResults();
                }
                case 4 -> {
                    due("differs", store.differs(), model.differs());
                    sameResults();
                }
                case 5 -> {
                    int k = odd(random.nextInt(20));
                    int what = odd(random.nextInt(6));
                    due("node", store.node(s, k, what), model.node(s, k, what));
                }
                default -> {
                    int what = odd(random.nextInt(12));
                    due("count(" + what + ")", store.count(what), model.count(what));
                }
            }
        }

        void writeOrCut() {
            int kind = random.nextInt(100);
            if (kind < cutsOf100) {
                int what = odd(random.nextInt(4));
                int n = odd(random.nextInt(257));
                due("arm(" + what + ", " + n + ")", store.arm(what, n) ? 1 : 0, model.arm(what, n) ? 1 : 0);
            } else if (kind < 75) {
                due("commit", store.commit(), model.commit());
            } else if (kind < 85) {
                due("abort", store.abort(), model.abort());
            } else if (kind < 98) {
                due("recover", store.recover(), model.recover());
            } else {
                due("format", store.format(), model.format());
            }
        }

        void sameResults() {
            due("size", store.size(), model.results.size());
            for (int i = -1; i <= model.results.size(); i++) {
                for (int what = -1; what <= 3; what++) {
                    due("result(" + i + ", " + what + ")", store.result(i, what), model.result(i, what));
                }
            }
        }

        void sameTrees() {
            for (int s = 0; s < 2; s++) {
                List<Node> nodes = model.tree(model.state(s));
                for (int k = 0; k < nodes.size(); k++) {
                    for (int what = 0; what < 6; what++) {
                        int want = model.off ? OFF : nodes.get(k).told(what);
                        due("node(" + s + ", " + k + ", " + what + ")", store.node(s, k, what), want);
                    }
                }
            }
            for (int what = -1; what <= 11; what++) {
                due("count(" + what + ")", store.count(what), model.count(what));
            }
        }

        int play() {
            for (int call = 0; call < CALLS; call++) {
                oneCall();
                if (call % 32 == 31) {
                    sameTrees();
                    sameResults();
                }
            }
            return wrong;
        }
    }

    /** Every row of so many calls out of ten that change something, behind the same few calls. */
    private static final class EveryRow {
        static final int KINDS = 10;
        static final int LENGTH = 5;

        int rows = 0;
        int wrong = 0;

        void play() {
            int all = (int) Math.pow(KINDS, LENGTH);
            for (rows = 0; rows < all; rows++) {
                PointStore store = new PointStore(4, 1, 2);
                Model model = new Model(4, 1, 2);
                StringBuilder calls = new StringBuilder();
                store.insert(0, 0, 1);
                model.insert(0, 0, 1);
                store.insert(3, 3, 2);
                model.insert(3, 3, 2);
                due("commit", store.commit(), model.commit());
                store.window(1, 0, 0, 3, 3);
                model.window(1, 0, 0, 3, 3);
                store.insert(0, 0, 3);
                model.insert(0, 0, 3);
                for (int i = 0, rest = rows; i < LENGTH; i++, rest /= KINDS) {
                    calls.append(' ').append(rest % KINDS);
                    oneCall(calls.toString(), store, model, rest % KINDS);
                }
                same("behind" + calls, store, model);
                due("recover behind" + calls, store.recover(), model.recover());
                same("recovered behind" + calls, store, model);
            }
        }

        void oneCall(String calls, PointStore store, Model model, int kind) {
            switch (kind) {
                case 0 -> due("insert" + calls, store.insert(0, 1, 4), model.insert(0, 1, 4));
                case 1 -> due("delete" + calls, store.delete(0, 0), model.delete(0, 0));
                case 2 -> due("commit" + calls, store.commit(), model.commit());
                case 3 -> due("abort" + calls, store.abort(), model.abort());
                case 4 -> due("format" + calls, store.format(), model.format());
                case 5 -> due("recover" + calls, store.recover(), model.recover());
                case 6 -> due("differs" + calls, store.differs(), model.differs());
                default -> due("arm" + calls, store.arm(kind - 7, 128) ? 1 : 0, model.arm(kind - 7, 128) ? 1 : 0);
            }
        }

        void same(String when, PointStore store, Model model) {
            due(when + ": size", store.size(), model.results.size());
            for (int i = 0; i < 9; i++) {
                due(when + ": result", store.result(i / 3, i % 3), model.result(i / 3, i % 3));
            }
            for (int what = 0; what <= 7; what++) {
                due(when + ": count(" + what + ")", store.count(what), model.count(what));
            }
            for (int s = 0; s < 2; s++) {
                for (int at = 0; at < 4; at++) {
                    due(when + ": get", store.get(s, at, at), model.get(s, at, at));
                }
                due(when + ": get", store.get(s, 0, 1), model.get(s, 0, 1));
                due(when + ": node", store.node(s, 1, 5), model.node(s, 1, 5));
            }
        }

        void due(String call, long got, long want) {
            if (got != want && wrong++ < 5) {
                System.out.println(call + " answered " + got + ", due is " + want);
            }
        }
    }

    /** What calls beyond the 512th answer is free, but they must end and throw nothing. */
    private static void playOn() {
        PointStore store = new PointStore(400, 8, 8);
        for (int i = 0; i < 6000; i++) {
            store.insert(i * 37 % 256, i * 101 % 255, i);
            if (i % 60 == 59) {
                store.arm(i % 4, i % 257);
                store.commit();
                store.recover();
                store.recover();
                store.window(0, 0, 0, 255, 255);
                store.nearest(1, i % 256, 7, 150);
                store.count(6);
            }
        }
    }

    public static void main(String[] args) {
        int wrong = 0;
        for (int seed = 0; seed < RUNS; seed++) {
            wrong += new Run(seed).play();
        }
        EveryRow every = new EveryRow();
        every.play();
        wrong += every.wrong;
        playOn();
        String right = RUNS + " runs and " + every.rows + " rows of calls are as the model has them";
        System.out.println(wrong == 0 ? right : wrong + " answers are not as due");
        if (wrong != 0) {
            System.exit(1);
        }
    }
}
