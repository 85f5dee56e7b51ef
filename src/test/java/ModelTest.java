import java.util.ArrayList;
import java.util.Arrays;
import java.util.List;

/** Pseudo-random runs of calls, each answer against a plain model of the document in doubles. */
public final class ModelTest {
    private static final int RUNS = 3000;
    private static final int CALLS = 512;
    private static final int SCENE = 128;
    private static final int CLEAR = -1;

    private static long seed;
    private static boolean narrow;
    private static int wrong = 0;
    private static final int[] KINDS_SEEN = new int[4];
    private static int stepsSeen = 0;
    private static int stuckSeen = 0;
    private static int fullSeen = 0;
    private static int notWithinSeen = 0;

    public static void main(String[] args) {
        for (int run = 1; run <= RUNS && wrong < 20; run++) {
            seed = run * 0x9E3779B97F4A7C15L;
            play(run);
        }
        boolean shallow = stepsSeen < 1000 || stuckSeen < 20 || fullSeen < 20 || notWithinSeen < 1;
        for (int seen : KINDS_SEEN) {
            shallow |= seen < 100;
        }
        System.out.println("seen: kinds " + Arrays.toString(KINDS_SEEN) + ", steps " + stepsSeen + ", stuck "
                + stuckSeen + ", full " + fullSeen + ", values outside " + notWithinSeen);
        System.out.println(wrong == 0 ? "the class answers as the model" : wrong + " answers are wrong");
        if (wrong != 0 || shallow) {
            System.exit(1);
        }
    }

    private static void play(int run) {
        BoxIntegrals x = new BoxIntegrals();
        Model m = new Model();
        List<String> calls = new ArrayList<>();
        for (int i = 0; i < CALLS; i++) {
            if (!call(x, m, calls, inScene(i % SCENE))) {
                wrong++;
                System.out.println("run " + run + ", call " + i + ": " + calls.get(calls.size() - 1));
                return;
            }
        }
    }

    /** A scene begins mostly with clear, draws, nodes, roles and begin; then any call comes. */
    private static int inScene(int i) {
        if (upTo(15) == 0) {
            return upTo(100);
        }
        return i == 0 ? CLEAR : i < 4 ? 0 : i < 18 ? 3 : i < 23 ? 7 : i == 23 ? 11 : 2 + upTo(98);
    }

    private static boolean call(BoxIntegrals x, Model m, List<String> calls, int which) {
        int box = mostly(m.boxes.size());
        int node = mostly(m.nodes.size());
        int end = upTo(30) == 0 ? upTo(5) - 2 : upTo(2);
        int kind = upTo(20) == 0 ? upTo(9) - 2 : upTo(4);
        if (which == CLEAR) {
            narrow = upTo(8) == 0;
            return same(calls, "clear()", x.clear(), m.clear());
        }
        if (which < 1) {
            long lo = spanBits(), hi = spanBits();
            return same(calls, "draw(" + lo + ", " + hi + ")", x.draw(lo, hi), m.draw(d(lo), d(hi)));
        }
        if (which < 4) {
            int k = upTo(30) == 0 ? upTo(21) - 2 : m.nodes.size() < 3 ? upTo(2) : upTo(17);
            int a = k == 0 ? mostly(m.los.size()) : mostly(m.nodes.size());
            int b = mostly(m.nodes.size());
            long bits = upTo(3) == 0 ? anyBits() : mildBits();
            return same(calls, "node(" + k + ", " + a + ", " + b + ", " + bits + ")", x.node(k, a, b, bits), m.node(k, a, b, d(bits)));
        }
        if (which < 8 && (which == 7 || upTo(8) == 0)) {
            int r = upTo(10) == 0 ? upTo(9) - 2 : upTo(2 + m.los.size());
            int n = upTo(6) == 0 ? BoxIntegrals.NONE : node;
            return same(calls, "role(" + r + ", " + n + ")", x.role(r, n), m.role(r, n));
        }
        if (which < 12 && (which == 11 || upTo(8) == 0)) {
            return same(calls, "begin()", x.begin(), m.begin());
        }
        if (which < 24) {
            int n = upTo(12) == 0 ? upTo(130) - 15 : upTo(8);
            int steps = m.run(n);
            stepsSeen += Math.max(steps, 0);
            fullSeen += steps == BoxIntegrals.FULL ? 1 : 0;
            return same(calls, "run(" + n + ")", x.run(n), steps);
        }
        if (which < 28) {
            return same(calls, "boxes()", x.boxes(), m.boxes.size());
        }
        if (which < 36) {
            int due = m.kind(box);
            if (due >= 0) {
                KINDS_SEEN[due]++;
            }
            return same(calls, "kind(" + box + ")", x.kind(box), due);
        }
        if (which < 44) {
            return sideIsSame(x, m, calls, box, mostly(m.los.size()), end);
        }
        if (which < 50) {
            return same(calls, "weight(" + box + ", " + end + ")", x.weight(box, end), m.weight(box, end));
        }
        if (which < 62) {
            return same(calls, "enclosed(" + box + ", " + node + ", " + end + ")", x.enclosed(box, node, end), m.enclosed(box, node, end));
        }
        return callAtPoint(x, m, calls, which, box, node, kind, end);
    }

    private static boolean callAtPoint(BoxIntegrals x, Model m, List<String> calls, int which, int box, int node, int kind, int end) {
        int near = upTo(4) == 0 ? -1 : box;
        long p = pointBits(m, near, 0), q = pointBits(m, near, 1), r = pointBits(m, near, 2);
        String point = p + ", " + q + ", " + r + ")";
        if (which < 68) {
            return same(calls, "value(" + node + ", " + point, x.value(node, p, q, r), m.value(node, d(p), d(q), d(r)));
        }
        if (which < 78) {
            int due = m.within(box, node, d(p), d(q), d(r));
            notWithinSeen += due == 1 ? 1 : 0;
            return same(calls, "within(" + box + ", " + node + ", " + point, x.within(box, node, p, q, r), due);
        }
        if (which < 83) {
            return same(calls, "where(" + point, x.where(p, q, r), m.where(d(p), d(q), d(r)));
        }
        if (which < 88) {
            return same(calls, "mass(" + kind + ", " + end + ")", x.mass(kind, end), m.mass(kind, end));
        }
        if (which < 92) {
            return same(calls, "odds(" + end + ")", x.odds(end), m.odds(end));
        }
        if (which < 95) {
            return shareIsSame(x, m, calls, kind);
        }
        int what = upTo(7) - 1;
        int due = m.count(what);
        stuckSeen += what == 4 && due > 0 ? 1 : 0;
        return same(calls, "count(" + what + ")", x.count(what), due);
    }

    private static boolean sideIsSame(BoxIntegrals x, Model m, List<String> calls, int box, int draw, int end) {
        boolean there = box >= 0 && box < m.boxes.size() && draw >= 0 && draw < m.los.size() && (end == 0 || end == 1);
        String call = "side(" + box + ", " + draw + ", " + end + ")";
        try {
            long got = x.side(box, draw, end);
            return same(calls, call, got, there ? b(m.boxes.get(box)[draw][end]) : ~got);
        } catch (ArrayIndexOutOfBoundsException e) {
            return same(calls, call + " threw", there ? 1 : 0, 0);
        }
    }

    private static boolean shareIsSame(BoxIntegrals x, Model m, List<String> calls, int kind) {
        boolean throwing = kind >= 0 && kind <= 3 && !m.boxes.isEmpty() && m.howMany(3) == 0;
        try {
            int got = x.share(kind);
            return same(calls, "share(" + kind + ")", got, throwing ? ~got : m.share(kind));
        } catch (ArithmeticException e) {
            return same(calls, "share(" + kind + ") threw", throwing ? 0 : 1, 0);
        }
    }

    private static boolean same(List<String> calls, String call, long got, long due) {
        calls.add(call + " answered " + got + ", due is " + due);
        return got == due;
    }

    private static double d(long bits) {
        return Double.longBitsToDouble(bits);
    }

    private static long b(double x) {
        return Double.doubleToLongBits(x);
    }

    private static int upTo(int n) {
        seed ^= seed << 13;
        seed ^= seed >>> 7;
        seed ^= seed << 17;
        return (int) Math.floorMod(seed >>> 11, (long) n);
    }

    private static int mostly(int size) {
        if (size == 0 || upTo(25) == 0) {
            int[] odd = {-1, size, size + 1, Integer.MIN_VALUE, Integer.MAX_VALUE, 32, 100, -5};
            return odd[upTo(odd.length)];
        }
        return upTo(3) == 0 ? size - 1 : upTo(size);
    }

    private static long anyBits() {
        upTo(2);
        long any = seed;
        double[] edges = {0.0, -0.0, 1.0, -1.0, Double.NaN, Double.POSITIVE_INFINITY, Double.NEGATIVE_INFINITY,
            Double.MIN_VALUE, -Double.MIN_VALUE, Double.MAX_VALUE, -Double.MAX_VALUE, Double.MIN_NORMAL, 1e200, -1e200, 1e-200};
        switch (upTo(3)) {
            case 0: return any;
            case 1: return b(edges[upTo(edges.length)]);
            default: return any | 0x7FF0000000000000L;
        }
    }

    private static long mildBits() {
        return b((upTo(65) - 32) / (upTo(2) == 0 ? 8.0 : 3.0));
    }

    private static long spanBits() {
        if (upTo(12) == 0) {
            return anyBits();
        }
        if (narrow) {
            return upTo(2) == 0 ? b(1.0) + upTo(9) : b((upTo(9) - 4) * Double.MIN_VALUE);
        }
        return mildBits();
    }

    /** BITS of a number in a box, if there is one: an end, the middle, or between; any at times. */
    private static long pointBits(Model m, int box, int draw) {
        if (box < 0 || box >= m.boxes.size() || draw >= m.los.size() || upTo(12) == 0) {
            return upTo(2) == 0 ? anyBits() : mildBits();
        }
        double[] side = m.boxes.get(box)[draw];
        switch (upTo(4)) {
            case 0: return b(side[0]);
            case 1: return b(side[1]);
            default: return b(side[0] + (side[1] - side[0]) * (upTo(9) / 8.0));
        }
    }

    /** What the document says, in doubles and lists, with nothing kept that can be worked anew. */
    private static final class Model {
        final List<Double> los = new ArrayList<>();
        final List<Double> his = new ArrayList<>();
        final List<int[]> nodes = new ArrayList<>();
        final List<Double> numbers = new ArrayList<>();
        final List<double[][]> boxes = new ArrayList<>();
        final int[] roles = {-5, -5, -5, -5, -5};
        int steps = 0;

        void endRun() {
            boxes.clear();
            steps = 0;
        }

        int draw(double lo, double hi) {
            if (!(lo < hi) || Double.isInfinite(lo) || Double.isInfinite(hi)) {
                return -2;
            }
            if (los.size() == 3) {
                return -4;
            }
            los.add(lo);
            his.add(hi);
            Arrays.fill(roles, -5);
            endRun();
            return los.size() - 1;
        }

        boolean isNode(int n) {
            return n >= 0 && n < nodes.size();
        }

        boolean isBox(int n) {
            return n >= 0 && n < boxes.size();
        }

        int node(int kind, int a, int b, double number) {
            if (kind < 0 || kind > 16) {
                return -2;
            }
            if (kind == 0 && (a < 0 || a >= los.size())) {
                return -1;
            }
            if (kind > 1 && !isNode(a) || kind > 1 && kind < 8 && !isNode(b)) {
                return -1;
            }
            if (nodes.size() == 32) {
                return -4;
            }
            nodes.add(new int[] {kind, a, b});
            numbers.add(number);
            return nodes.size() - 1;
        }

        int role(int role, int node) {
            if (role < 0 || role > 1 + los.size()) {
                return -2;
            }
            if (node != -5 && !isNode(node)) {
                return -1;
            }
            int was = roles[role];
            roles[role] = node;
            endRun();
            return was;
        }

        int begin() {
            if (los.isEmpty()) {
                return -3;
            }
            endRun();
            double[][] box = new double[los.size()][];
            for (int i = 0; i < box.length; i++) {
                box[i] = new double[] {los.get(i), his.get(i)};
            }
            boxes.add(box);
            return los.size();
        }

        int run(int n) {
            if (n < 0 || n > 99) {
                return -2;
            }
            if (boxes.isEmpty()) {
                return -3;
            }
            if (boxes.size() == 100) {
                return -4;
            }
            int done = 0;
            while (done < n && boxes.size() < 100 && step()) {
                done++;
            }
            return done;
        }

        boolean step() {
            int best = -1;
            for (int i = 0; i < boxes.size(); i++) {
                if (kind(i) == 3 && !tight(i) && (best < 0 || weights(i)[1] > weights(best)[1])) {
                    best = i;
                }
            }
            if (best < 0) {
                return false;
            }
            double[][] box = boxes.get(best);
            int w = widest(box);
            double m = middle(box[w]);
            double[][] other = new double[box.length][];
            for (int i = 0; i < box.length; i++) {
                other[i] = box[i].clone();
            }
            box[w][1] = m;
            other[w][0] = m;
            boxes.add(other);
            steps++;
            return true;
        }

        static int widest(double[][] box) {
            int w = 0;
            for (int i = 1; i < box.length; i++) {
                if (box[i][1] - box[i][0] > box[w][1] - box[w][0]) {
                    w = i;
                }
            }
            return w;
        }

        static double middle(double[] side) {
            return side[0] + (side[1] - side[0]) / 2.0;
        }

        boolean tight(int i) {
            double[] side = boxes.get(i)[widest(boxes.get(i))];
            double m = middle(side);
            return !(m > side[0]) || !(m < side[1]);
        }

        int kind(int i) {
            if (!isBox(i)) {
                return -1;
            }
            double[] c = roles[0] == -5 ? new double[] {1.0, 1.0} : ends(roles[0], boxes.get(i));
            double[] q = roles[1] == -5 ? new double[] {1.0, 1.0} : ends(roles[1], boxes.get(i));
            if (!(c[1] > 0.0)) {
                return 0;
            }
            if (c[0] > 0.0 && q[0] > 0.0) {
                return 1;
            }
            if (c[0] > 0.0 && !(q[1] > 0.0)) {
                return 2;
            }
            return 3;
        }

        double[] weights(int i) {
            double[][] box = boxes.get(i);
            double[] w = {1.0, 1.0};
            for (int k = 0; k < box.length; k++) {
                double width = box[k][1] - box[k][0];
                w = times(w, new double[] {Math.nextDown(width), Math.nextUp(width)});
                if (roles[2 + k] != -5) {
                    w = times(w, ends(roles[2 + k], box));
                }
            }
            return w;
        }

        static double[] times(double[] w, double[] by) {
            double m = by[0] < 0.0 ? 0.0 : by[0];
            double n = by[1] < 0.0 ? 0.0 : by[1];
            double low = Math.nextDown(w[0] * m);
            double high = Math.nextUp(w[1] * n);
            return new double[] {Double.isNaN(low) || low < 0.0 ? 0.0 : low,
                Double.isNaN(high) ? Double.POSITIVE_INFINITY : high};
        }

        long weight(int i, int end) {
            return isBox(i) && (end == 0 || end == 1) ? b(weights(i)[end]) : 0;
        }

        long enclosed(int i, int node, int end) {
            if (!isBox(i) || !isNode(node) || end < 0 || end > 1) {
                return 0;
            }
            return b(ends(node, boxes.get(i))[end]);
        }

        static double[] line() {
            return new double[] {Double.NEGATIVE_INFINITY, Double.POSITIVE_INFINITY};
        }

        double[] ends(int node, double[][] box) {
            double[][] all = new double[node + 1][];
            for (int i = 0; i <= node; i++) {
                int[] n = nodes.get(i);
                if (n[0] == 0) {
                    all[i] = box[n[1]].clone();
                } else if (n[0] == 1) {
                    all[i] = new double[] {numbers.get(i), numbers.get(i)};
                } else {
                    all[i] = endsOf(n[0], all[n[1]], n[0] < 8 ? all[n[2]] : null);
                }
                if (Double.isNaN(all[i][0]) || Double.isNaN(all[i][1])) {
                    all[i] = line();
                }
            }
            return all[node];
        }

        static double[] endsOf(int kind, double[] a, double[] b) {
            switch (kind) {
                case 2:
                    return new double[] {Math.nextDown(a[0] + b[0]), Math.nextUp(a[1] + b[1])};
                case 3:
                    return new double[] {Math.nextDown(a[0] - b[1]), Math.nextUp(a[1] - b[0])};
                case 4:
                    return four(a[0] * b[0], a[0] * b[1], a[1] * b[0], a[1] * b[1]);
                case 5:
                    if (!(b[0] > 0) && !(b[1] < 0)) {
                        return line();
                    }
                    return four(a[0] / b[0], a[0] / b[1], a[1] / b[0], a[1] / b[1]);
                case 8:
                    return magnitudes(a);
                case 9:
                    if (a[0] < 0.0) {
                        return line();
                    }
                    return floored(new double[] {Math.nextDown(Math.sqrt(a[0])), Math.nextUp(Math.sqrt(a[1]))});
                case 10:
                    double[] e = magnitudes(a);
                    return floored(new double[] {Math.nextDown(e[0] * e[0]), Math.nextUp(e[1] * e[1])});
                case 12:
                    return new double[] {-a[1], -a[0]};
                default:
                    return new double[] {made(kind, a[0], b == null ? 0 : b[0]), made(kind, a[1], b == null ? 0 : b[1])};
            }
        }

        static double[] four(double... all) {
            double least = all[0], greatest = all[0];
            for (double one : all) {
                least = Math.min(least, one);
                greatest = Math.max(greatest, one);
            }
            return new double[] {Math.nextDown(least), Math.nextUp(greatest)};
        }

        static double[] magnitudes(double[] a) {
            if (!(a[0] < 0)) {
                return a.clone();
            }
            if (!(a[1] > 0)) {
                return new double[] {-a[1], -a[0]};
            }
            return new double[] {0.0, Math.max(-a[0], a[1])};
        }

        static double[] floored(double[] e) {
            return new double[] {e[0] < 0.0 ? 0.0 : e[0], e[1]};
        }

        static double made(int kind, double a, double b) {
            switch (kind) {
                case 2: return a + b;
                case 3: return a - b;
                case 4: return a * b;
                case 5: return a / b;
                case 6: return Math.min(a, b);
                case 7: return Math.max(a, b);
                case 8: return Math.abs(a);
                case 9: return Math.sqrt(a);
                case 10: return a * a;
                case 11: return Math.floor(a);
                case 12: return -a;
                case 13: return (double) (float) a;
                case 14: return Math.signum(a);
                case 15: return (double) (int) a;
                default: return (double) (long) a;
            }
        }

        double valueAt(int node, double... point) {
            double[] all = new double[node + 1];
            for (int i = 0; i <= node; i++) {
                int[] n = nodes.get(i);
                all[i] = n[0] == 0 ? point[n[1]]
                        : n[0] == 1 ? numbers.get(i)
                        : made(n[0], all[n[1]], n[0] < 8 ? all[n[2]] : 0);
            }
            return all[node];
        }

        long value(int node, double x, double y, double z) {
            return isNode(node) ? b(valueAt(node, x, y, z)) : 0;
        }

        boolean isIn(double[][] box, double... point) {
            for (int i = 0; i < box.length; i++) {
                if (!(point[i] >= box[i][0] && point[i] <= box[i][1])) {
                    return false;
                }
            }
            return true;
        }

        int within(int i, int node, double x, double y, double z) {
            if (!isBox(i) || !isNode(node)) {
                return -1;
            }
            if (!isIn(boxes.get(i), x, y, z)) {
                return 0;
            }
            double v = valueAt(node, x, y, z);
            double[] e = ends(node, boxes.get(i));
            return Double.isNaN(v) || v >= e[0] && v <= e[1] ? 2 : 1;
        }

        int where(double x, double y, double z) {
            for (int i = 0; i < boxes.size(); i++) {
                if (isIn(boxes.get(i), x, y, z)) {
                    return i;
                }
            }
            return -5;
        }

        double[] masses(int kind) {
            double[] sum = {0.0, 0.0};
            for (int i = 0; i < boxes.size(); i++) {
                if (kind(i) == kind) {
                    double[] w = weights(i);
                    sum[0] = Math.nextDown(sum[0] + w[0]);
                    sum[0] = sum[0] < 0.0 ? 0.0 : sum[0];
                    sum[1] = Math.nextUp(sum[1] + w[1]);
                }
            }
            return sum;
        }

        long mass(int kind, int end) {
            if (kind < 0 || kind > 3 || end < 0 || end > 1 || boxes.isEmpty()) {
                return 0;
            }
            return b(masses(kind)[end]);
        }

        long odds(int end) {
            if (end < 0 || end > 1 || boxes.isEmpty()) {
                return 0;
            }
            double[] y = masses(1), n = masses(2), o = masses(3);
            if (end == 0) {
                double low = Math.nextDown(y[0] / Math.nextUp(Math.nextUp(y[0] + n[1]) + o[1]));
                return b(low >= 0.0 ? low : 0.0);
            }
            double some = Math.nextUp(y[1] + o[1]);
            double high = Math.nextUp(some / Math.nextDown(some + n[0]));
            return b(high <= 1.0 ? high : 1.0);
        }

        int howMany(int kind) {
            int found = 0;
            for (int i = 0; i < boxes.size(); i++) {
                found += kind(i) == kind ? 1 : 0;
            }
            return found;
        }

        int share(int kind) {
            if (kind < 0 || kind > 3) {
                return -2;
            }
            return boxes.isEmpty() ? -3 : howMany(kind) / howMany(3);
        }

        int count(int what) {
            int stuck = 0;
            for (int i = 0; i < boxes.size(); i++) {
                stuck += kind(i) == 3 && tight(i) ? 1 : 0;
            }
            int[] all = {los.size(), nodes.size(), boxes.size(), steps, stuck};
            return what < 0 || what > 4 ? -2 : all[what];
        }

        int clear() {
            int were = nodes.size();
            nodes.clear();
            numbers.clear();
            los.clear();
            his.clear();
            Arrays.fill(roles, -5);
            endRun();
            return were;
        }
    }
}
