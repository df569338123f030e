import java.math.BigInteger;
import java.util.ArrayList;
import java.util.List;

/**
 * The document once more, word by word and without thrift: lists in place of rows, nothing kept
 * between calls that could be worked out anew. RandomRunsTest compares PathRide with it.
 */
final class Oracle {
    static final int NONE = -1;
    static final int MIN = Integer.MIN_VALUE;

    static final class Block {
        int[] a;
        int[] b;
        int feed;
        int move;

        int d(int axis) {
            return b[axis] - a[axis];
        }

        int length() {
            return root(sq(d(0)) + sq(d(1)) + sq(d(2)));
        }

        boolean flat() {
            return a[2] == b[2];
        }

        boolean goesLike(Block o) {
            return same(a, o.a) && same(b, o.b) || same(a, o.b) && same(b, o.a);
        }
    }

    static final class Program {
        int[] axes = {2000, 2000, 2000, 100, 100, 100};
        int jerk = 10;
        int tolerance = 50;
        int moves;
        int marks;
        List<Block> blocks = new ArrayList<>();

        int all() {
            int sum = 0;
            for (Block b : blocks) {
                sum += b.length();
            }
            return sum;
        }

        int begin(int i) {
            int sum = 0;
            for (int k = 0; k < i; k++) {
                sum += blocks.get(k).length();
            }
            return sum;
        }

        int blockAt(int s) {
            for (int i = 0; i < blocks.size(); i++) {
                if (begin(i + 1) > s) {
                    return i;
                }
            }
            return blocks.size() - 1;
        }

        int rate(int i, int first) {
            long least = Long.MAX_VALUE;
            Block b = blocks.get(i);
            for (int axis = 0; axis < 3; axis++) {
                if (b.d(axis) != 0) {
                    least = Math.min(least, (long) axes[first + axis] * b.length() / Math.abs(b.d(axis)));
                }
            }
            return (int) least;
        }

        int speed(int i) {
            return rate(i, 0);
        }

        int push(int i) {
            return rate(i, 3);
        }

        int sharp(int i) {
            long sum = 0;
            for (int axis = 0; axis < 3; axis++) {
                Block b = blocks.get(i);
                Block c = blocks.get(i + 1);
                long bend = (long) c.d(axis) * 32768 / c.length() - (long) b.d(axis) * 32768 / b.length();
                sum += bend * bend;
            }
            return root(sum);
        }
    }

    /** A program seen by a tolerance, a jerk and a feed that may be other ones than its own. */
    static final class View {
        final Program p;
        final int tolerance;
        final int j;
        final int given;
        final int reach;
        final int all;
        final int n;
        final int[] ends;
        final int[] limit;
        final int[] cornerLimit;

        View(Program p, int tolerance, int j, int given) {
            this.p = p;
            this.tolerance = tolerance;
            this.j = j;
            this.given = given;
            n = p.blocks.size();
            all = p.all();
            int r = 12;
            for (int i = 0; i < n; i++) {
                r = Math.min(r, p.push(i) / j);
            }
            reach = Math.max(1, r);
            ends = new int[n];
            limit = new int[n];
            cornerLimit = new int[n];
            for (int i = 0; i < n; i++) {
                ends[i] = p.begin(i + 1);
                limit[i] = Math.min(100, Math.max(1, raw(i)));
                cornerLimit[i] = i + 1 < n ? cornerLimit(i) : 0;
            }
        }

        int fed(int i) {
            return p.blocks.get(i).feed * given / 100;
        }

        int raw(int i) {
            return Math.min(fed(i), p.speed(i)) / j;
        }

        int cut(int i) {
            int sharp = p.sharp(i);
            if (sharp == 0) {
                return 0;
            }
            int half = Math.min(p.blocks.get(i).length() / 2, p.blocks.get(i + 1).length() / 2);
            return (int) Math.min(half, 4L * tolerance * 32768 / sharp);
        }

        int cornerLimit(int i) {
            int sharp = p.sharp(i);
            if (sharp == 0) {
                return 100;
            }
            int push = Math.min(p.push(i), p.push(i + 1));
            return Math.min(100, Math.max(1, root(2L * cut(i) * push * 32768 / sharp) / j));
        }

        int binds(int i) {
            if (raw(i) < 1 || raw(i) > 100) {
                return 4;
            }
            if (fed(i) <= p.speed(i)) {
                return 3;
            }
            Block b = p.blocks.get(i);
            for (int axis = 0; axis < 3; axis++) {
                if (b.d(axis) != 0 && (long) p.axes[axis] * b.length() / Math.abs(b.d(axis)) == p.speed(i)) {
                    return axis;
                }
            }
            throw new IllegalStateException();
        }

        int passes(int i) {
            long[] v = new long[n + 1];
            for (int k = 1; k < n; k++) {
                v[k] = cornerLimit[k - 1] * j;
            }
            for (int k = n - 1; k >= 0; k--) {
                v[k] = Math.min(v[k], root(v[k + 1] * v[k + 1] + 2L * p.push(k) * p.blocks.get(k).length()));
            }
            for (int k = 0; k < n; k++) {
                v[k + 1] = Math.min(v[k + 1], root(v[k] * v[k] + 2L * p.push(k) * p.blocks.get(k).length()));
            }
            return (int) v[i];
        }

        int blockAt(int s) {
            for (int i = 0; i < n; i++) {
                if (ends[i] > s) {
                    return i;
                }
            }
            return n - 1;
        }

        boolean may(int s, int w, int u, int s2, int w2, int u2) {
            if (u2 < -reach || u2 > reach || w2 < 0 || u2 < 0 && 2 * w2 < u2 * (u2 + 1) || s2 > all || n == 0) {
                return false;
            }
            int from = blockAt(s);
            int to = blockAt(s2);
            for (int i = from; i <= to; i++) {
                if (w2 > limit[i] || i < to && w2 > cornerLimit[i]) {
                    return false;
                }
            }
            return true;
        }

        int brakeBy(int w, int u) {
            for (int k = -1; k <= 1; k++) {
                int u2 = u + k;
                int w2 = w + u2;
                if (u2 >= -reach && w2 >= 0 && (u2 >= 0 || 2 * w2 >= u2 * (u2 + 1))) {
                    return k;
                }
            }
            throw new IllegalStateException("no brake");
        }

        boolean fits(int s, int w, int u, int k) {
            int u2 = u + k;
            int w2 = w + u2;
            int s2 = s + w2 * j;
            if (!may(s, w, u, s2, w2, u2)) {
                return false;
            }
            while (w2 != 0 || u2 != 0) {
                int k3 = brakeBy(w2, u2);
                int u3 = u2 + k3;
                int w3 = w2 + u3;
                int s3 = s2 + w3 * j;
                if (!may(s2, w2, u2, s3, w3, u3)) {
                    return false;
                }
                s2 = s3;
                w2 = w3;
                u2 = u3;
            }
            return true;
        }

        boolean done(int[] x) {
            return x[0] == all && x[1] == 0 && x[2] == 0;
        }

        void go(int[] x, int k) {
            x[2] += k;
            x[1] += x[2];
            x[0] += x[1] * j;
        }

        /** x: s, w, u. */
        int tick(int[] x, boolean held) {
            boolean rest = x[1] == 0 && x[2] == 0;
            if (held) {
                if (rest) {
                    return 0;
                }
                int k = brakeBy(x[1], x[2]);
                go(x, k);
                return k;
            }
            if (rest) {
                if (fits(x[0], 0, 0, 1)) {
                    go(x, 1);
                    return 1;
                }
                if (all - x[0] < 2 * j) {
                    x[0] = all;
                }
                return 0;
            }
            for (int k = 1; k >= -1; k--) {
                if (fits(x[0], x[1], x[2], k)) {
                    go(x, k);
                    return k;
                }
            }
            int k = brakeBy(x[1], x[2]);
            go(x, k);
            return k;
        }

        int till(int[] from) {
            int[] x = from.clone();
            for (int t = 0; t <= 3000; t++) {
                if (done(x)) {
                    return t;
                }
                tick(x, false);
            }
            return -2;
        }
    }

    // ---- the object ----

    Program p = new Program();
    StringBuilder tape = new StringBuilder();
    int[] x = {0, 0, 0};
    int given = 100;
    boolean held;
    int ticked;
    List<int[]> past = new ArrayList<>();
    int[][] images = new int[3][];
    List<List<Block>> kept = new ArrayList<>(List.of(new ArrayList<>(), new ArrayList<>()));
    boolean[] wasKept = new boolean[2];
    private View cached;
    private Program cachedOf;
    private static int[][] leasts;

    View view() {
        if (cached == null || cachedOf != p || cached.given != given) {
            cached = new View(p, p.tolerance, p.jerk, given);
            cachedOf = p;
        }
        return cached;
    }

    int[] snapshot() {
        return new int[] {x[0], x[1], x[2], given, held ? 1 : 0, ticked};
    }

    void restore(int[] s) {
        x = new int[] {s[0], s[1], s[2]};
        given = s[3];
        held = s[4] == 1;
        ticked = s[5];
    }

    void act() {
        past.add(snapshot());
        if (past.size() > 20) {
            past.remove(0);
        }
    }

    int feed(int a, int b, int c, int d, int e) {
        if (tape.length() + 20 > 400) {
            return NONE;
        }
        for (int n : new int[] {a, b, c, d, e}) {
            for (int shift = 24; shift >= 0; shift -= 8) {
                tape.append((char) (n >> shift & 255));
            }
        }
        return tape.length();
    }

    int end(int n) {
        if (n < 0 || n > tape.length()) {
            return NONE;
        }
        tape.setLength(n);
        return n;
    }

    int program() {
        String text = tape.toString();
        tape.setLength(0);
        OracleReader reader = new OracleReader(text);
        try {
            p = reader.read();
        } catch (OracleReader.Fault f) {
            return -2 - f.number;
        }
        x = new int[] {0, 0, 0};
        given = 100;
        held = false;
        ticked = 0;
        past.clear();
        images = new int[3][];
        return p.blocks.size();
    }

    boolean has(int block) {
        return block >= 0 && block < p.blocks.size();
    }

    int block(int i, int what) {
        if (!has(i)) {
            return NONE;
        }
        Block b = p.blocks.get(i);
        switch (what) {
            case 0: case 1: case 2: return b.b[what];
            case 3: return b.length();
            case 4: return b.feed;
            case 5: return p.speed(i);
            case 6: return p.push(i);
            case 7: return view().limit[i];
            case 8: return view().passes(i);
            case 9: return b.move;
            default: return NONE;
        }
    }

    int corner(int i, int what) {
        if (!has(i) || !has(i + 1) || what < 0 || what > 2) {
            return NONE;
        }
        return what == 0 ? p.sharp(i) : what == 1 ? view().cut(i) : view().cornerLimit(i);
    }

    boolean isDone() {
        return view().done(x);
    }

    int ticks(int n) {
        if (n < 1 || n > 60) {
            return NONE;
        }
        if (isDone()) {
            return -2;
        }
        for (int i = 0; i < n; i++) {
            if (!isDone()) {
                act();
                view().tick(x, held);
                ticked++;
            }
        }
        return x[0];
    }

    int give(int percent) {
        if (percent < 1 || percent > 200 || percent == given) {
            return NONE;
        }
        act();
        int was = given;
        given = percent;
        return was;
    }

    boolean hold() {
        if (held) {
            return false;
        }
        act();
        held = true;
        return true;
    }

    boolean letGo() {
        if (!held) {
            return false;
        }
        act();
        held = false;
        return true;
    }

    int undo() {
        if (past.isEmpty()) {
            return -2;
        }
        restore(past.remove(past.size() - 1));
        return past.size();
    }

    int where(int axis) {
        return axis < 0 || axis > 2 ? MIN : placed(x[0], axis);
    }

    int place(int s, int axis) {
        return axis < 0 || axis > 2 || s < 0 || s > p.all() ? MIN : placed(s, axis);
    }

    private int placed(int s, int axis) {
        if (p.blocks.isEmpty()) {
            return 0;
        }
        for (int i = 0; i + 1 < p.blocks.size(); i++) {
            int at = p.begin(i + 1);
            int cut = view().cut(i);
            if (cut > 0 && Math.abs(s - at) <= cut) {
                Block b = p.blocks.get(i);
                Block c = p.blocks.get(i + 1);
                BigInteger t = big(s - (at - cut));
                BigInteger r = big(2L * cut).subtract(t);
                BigInteger pp = big(b.b[axis] - (long) b.d(axis) * cut / b.length());
                BigInteger cc = big(b.b[axis]);
                BigInteger qq = big(b.b[axis] + (long) c.d(axis) * cut / c.length());
                BigInteger sum = pp.multiply(r).multiply(r).add(cc.multiply(big(2)).multiply(t).multiply(r))
                    .add(qq.multiply(t).multiply(t));
                return sum.divide(big(4L * cut * cut)).intValueExact();
            }
        }
        int i = p.blockAt(s);
        Block b = p.blocks.get(i);
        return (int) (b.a[axis] + (long) b.d(axis) * (s - p.begin(i)) / b.length());
    }

    private int[] behind(int n) {
        int[] y = x.clone();
        for (int i = 0; i < n; i++) {
            if (!view().done(y)) {
                view().tick(y, held);
            }
        }
        return y;
    }

    int ahead(int n, int what) {
        if (n < 0 || n > 300 || what < 0 || what > 3) {
            return MIN;
        }
        int[] y = behind(n);
        return what == 3 ? p.blockAt(y[0]) : y[what];
    }

    int till() {
        return isDone() ? 0 : held ? -2 : view().till(x);
    }

    int tried(int what, int n) {
        if (what == 0 && n >= 0 && n <= 2000) {
            return new View(p, n, p.jerk, given).till(new int[3]);
        }
        if (what == 1 && n >= 1 && n <= 50) {
            return new View(p, p.tolerance, n, given).till(new int[3]);
        }
        if (what == 2 && n >= 1 && n <= 200) {
            return new View(p, p.tolerance, p.jerk, n).till(new int[3]);
        }
        return NONE;
    }

    int slowest(int n) {
        if (n < 0 || n > 3000) {
            return NONE;
        }
        for (int g = 10; g <= 200; g += 10) {
            int t = new View(p, p.tolerance, p.jerk, g).till(x);
            if (t >= 0 && t <= n) {
                return g;
            }
        }
        return -2;
    }

    int brakes(int what) {
        if (what < 0 || what > 1) {
            return NONE;
        }
        int[] y = x.clone();
        int n = toRest(y);
        return what == 0 ? n : y[0] - x[0];
    }

    private int toRest(int[] y) {
        int n = 0;
        while (y[1] != 0 || y[2] != 0) {
            view().go(y, view().brakeBy(y[1], y[2]));
            n++;
        }
        return n;
    }

    int least(int w, int u) {
        if (w < 0 || w > 40 || u < -6 || u > 6) {
            return NONE;
        }
        if (leasts == null) {
            leasts = findLeasts();
        }
        return leasts[u + 6][w];
    }

    /** Goes out from rest backwards, always on from the least sum not yet settled. */
    private static int[][] findLeasts() {
        int[][] sum = new int[13][61];
        boolean[][] settled = new boolean[13][61];
        for (int[] row : sum) {
            java.util.Arrays.fill(row, -2);
        }
        sum[6][0] = 0;
        while (true) {
            int bu = 0;
            int bw = -1;
            for (int u = -6; u <= 6; u++) {
                for (int w = 0; w <= 60; w++) {
                    if (!settled[u + 6][w] && sum[u + 6][w] >= 0
                        && (bw < 0 || sum[u + 6][w] < sum[bu + 6][bw])) {
                        bu = u;
                        bw = w;
                    }
                }
            }
            if (bw < 0) {
                return sum;
            }
            settled[bu + 6][bw] = true;
            for (int j = -1; j <= 1; j++) {
                int u = bu - j;
                int w = bw - bu;
                if (u >= -6 && u <= 6 && w >= 0 && w <= 60 && !settled[u + 6][w]) {
                    int s = sum[bu + 6][bw] + bw;
                    if (sum[u + 6][w] < 0 || s < sum[u + 6][w]) {
                        sum[u + 6][w] = s;
                    }
                }
            }
        }
    }

    List<int[]> spotList() {
        List<int[]> list = new ArrayList<>();
        if (p.blocks.isEmpty()) {
            return list;
        }
        List<int[]> way = new ArrayList<>();
        way.add(p.blocks.get(0).a);
        for (Block b : p.blocks) {
            way.add(b.b);
        }
        for (int[] at : way) {
            boolean found = false;
            for (int[] spot : list) {
                if (same(spot, at)) {
                    spot[3]++;
                    found = true;
                }
            }
            if (!found) {
                list.add(new int[] {at[0], at[1], at[2], 1});
            }
        }
        return list;
    }

    int spots() {
        return spotList().size();
    }

    int spot(int k, int what) {
        List<int[]> list = spotList();
        return k < 0 || k >= list.size() || what < 0 || what > 3 ? MIN : list.get(k)[what];
    }

    int comes(int a, int b, int c) {
        for (int[] spot : spotList()) {
            if (same(spot, new int[] {a, b, c})) {
                return spot[3];
            }
        }
        return 0;
    }

    int twice(int k) {
        if (k == NONE) {
            int n = 0;
            for (int i = 0; i < p.blocks.size(); i++) {
                n += twice(i) < i ? 1 : 0;
            }
            return n;
        }
        if (!has(k)) {
            return NONE;
        }
        for (int i = 0; i < k; i++) {
            if (p.blocks.get(i).goesLike(p.blocks.get(k))) {
                return i;
            }
        }
        return k;
    }

    int run(int what) {
        if (what < 0 || what > 4) {
            return NONE;
        }
        int[] y = x.clone();
        int most = 0;
        int more = 0;
        int less = 0;
        int at = 0;
        StringBuilder js = new StringBuilder();
        for (int t = 0; t < 3000 && !view().done(y); t++) {
            int u = y[2];
            view().tick(y, false);
            int j = y[2] - u;
            most = Math.max(most, y[1]);
            more += j == 1 ? 1 : 0;
            less += j == -1 ? 1 : 0;
            at += y[1] == view().limit[p.blockAt(y[0])] ? 1 : 0;
            js.append((char) ('b' + j));
        }
        if (!view().done(y)) {
            return -2;
        }
        String parts = js.toString().replaceAll("a+", "a").replaceAll("b+", "b").replaceAll("c+", "c");
        return new int[] {most, more, less, at, parts.length()}[what];
    }

    int halt(int n) {
        if (n < 0 || n > 300) {
            return NONE;
        }
        int[] y = behind(n);
        toRest(y);
        return y[0];
    }

    int due(int s) {
        if (s < 0 || s > p.all()) {
            return NONE;
        }
        int[] y = x.clone();
        if (y[0] >= s) {
            return 0;
        }
        if (held) {
            return -2;
        }
        for (int t = 1; t <= 3000; t++) {
            view().tick(y, false);
            if (y[0] >= s) {
                return t;
            }
        }
        return -2;
    }

    int binds(int i) {
        return has(i) ? view().binds(i) : NONE;
    }

    int layer(int k, int what) {
        List<Integer> zs = new ArrayList<>();
        for (Block b : p.blocks) {
            if (b.flat() && !zs.contains(b.a[2])) {
                zs.add(b.a[2]);
            }
        }
        if (k == NONE) {
            return zs.size();
        }
        if (k < 0 || k >= zs.size() || what < 0 || what > 2) {
            return MIN;
        }
        int n = 0;
        int sum = 0;
        for (Block b : p.blocks) {
            if (b.flat() && b.a[2] == zs.get(k)) {
                n++;
                sum += b.length();
            }
        }
        return what == 0 ? zs.get(k) : what == 1 ? n : sum;
    }

    int meets(int what) {
        if (what < 0 || what > 2) {
            return NONE;
        }
        int n = 0;
        int first = -2;
        int other = -2;
        for (int i = 0; i < p.blocks.size(); i++) {
            for (int k = i + 1; k < p.blocks.size(); k++) {
                if (k != i + 1 && meet(p.blocks.get(i), p.blocks.get(k))) {
                    if (n == 0) {
                        first = i;
                        other = k;
                    }
                    n++;
                }
            }
        }
        return what == 0 ? n : what == 1 ? first : other;
    }

    /** By the parameters of both lines, as fractions; lines that run alike by what they cover. */
    private static boolean meet(Block b, Block c) {
        if (!b.flat() || !c.flat() || b.a[2] != c.a[2]) {
            return false;
        }
        long det = (long) b.d(0) * c.d(1) - (long) b.d(1) * c.d(0);
        long rx = c.a[0] - b.a[0];
        long ry = c.a[1] - b.a[1];
        if (det != 0) {
            long t = rx * c.d(1) - ry * c.d(0);
            long v = rx * b.d(1) - ry * b.d(0);
            if (det < 0) {
                det = -det;
                t = -t;
                v = -v;
            }
            return t >= 0 && t <= det && v >= 0 && v <= det;
        }
        if (rx * b.d(1) - ry * b.d(0) != 0) {
            return false;
        }
        long whole = sq(b.d(0)) + sq(b.d(1));
        long from = rx * b.d(0) + ry * b.d(1);
        long to = from + (long) c.d(0) * b.d(0) + (long) c.d(1) * b.d(1);
        return Math.max(Math.min(from, to), 0) <= Math.min(Math.max(from, to), whole);
    }

    int box(int axis, int side) {
        List<int[]> list = spotList();
        if (axis < 0 || axis > 2 || side < 0 || side > 1 || list.isEmpty()) {
            return MIN;
        }
        return side == 0 ? list.stream().mapToInt(s -> s[axis]).min().getAsInt()
            : list.stream().mapToInt(s -> s[axis]).max().getAsInt();
    }

    int near(int a, int b, int c, int what) {
        List<int[]> list = spotList();
        for (int n : new int[] {a, b, c}) {
            if (n < -100000 || n > 100000) {
                return NONE;
            }
        }
        if (what < 0 || what > 1 || list.isEmpty()) {
            return NONE;
        }
        int best = -1;
        long least = Long.MAX_VALUE;
        for (int i = 0; i < list.size(); i++) {
            int[] s = list.get(i);
            long far = sq(s[0] - a) + sq(s[1] - b) + sq(s[2] - c);
            if (far < least) {
                least = far;
                best = i;
            }
        }
        return what == 0 ? best : root(least);
    }

    private List<Block> legs() {
        List<Block> list = new ArrayList<>();
        for (Block b : p.blocks) {
            if (list.stream().noneMatch(b::goesLike)) {
                list.add(b);
            }
        }
        return list;
    }

    int keep(int k) {
        if (k < 0 || k > 1) {
            return NONE;
        }
        kept.set(k, legs());
        wasKept[k] = true;
        return kept.get(k).size();
    }

    int common(int k) {
        if (k < 0 || k > 1) {
            return NONE;
        }
        if (!wasKept[k]) {
            return -2;
        }
        return (int) legs().stream().filter(b -> kept.get(k).stream().anyMatch(b::goesLike)).count();
    }

    int image(int k) {
        if (k < 0 || k > 2) {
            return NONE;
        }
        images[k] = snapshot();
        return x[0];
    }

    int back(int k) {
        if (k < 0 || k > 2 || images[k] == null) {
            return NONE;
        }
        restore(images[k]);
        past.clear();
        return x[0];
    }

    int count(int what) {
        int[] all = {p.blocks.size(), p.moves, p.marks, p.all(), x[0], x[1], x[2], p.blockAt(x[0]), given,
            held ? 1 : 0, view().reach, p.jerk, p.tolerance, past.size(), tape.length(), ticked};
        return what < 0 || what > 15 ? NONE : all[what];
    }

    // ---- numbers ----

    static int root(long n) {
        return big(n).sqrt().intValueExact();
    }

    static BigInteger big(long n) {
        return BigInteger.valueOf(n);
    }

    static long sq(long n) {
        return n * n;
    }

    static boolean same(int[] a, int[] b) {
        return a[0] == b[0] && a[1] == b[1] && a[2] == b[2];
    }
}
