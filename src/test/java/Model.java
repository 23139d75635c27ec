import java.math.BigInteger;
import java.util.ArrayList;
import java.util.Arrays;
import java.util.HashSet;
import java.util.List;
import java.util.Set;

/** The document said again in the slowest and plainest way: every choice is looked at, one by one. */
final class Model {
    private static final class P {
        int kind, own, len, heft, p = 1, q = 2, on = -1, end = -1, thread;
        int[] kid = {-1, -1};
        long[] corner;
    }

    private final int[] sort = {-1, -1, -1, -1, -1, -1};
    private final long[][] row = new long[6][];
    private final List<P> parts = new ArrayList<>();
    private List<Integer> kept = new ArrayList<>();
    private String out = "";
    int status = 0;
    private int tries;

    private long no(int why) {
        status = why;
        return -1;
    }

    private boolean bad(int why) {
        status = why;
        return false;
    }

    private boolean yes() {
        status = 0;
        return true;
    }

    private P at(int n) {
        return parts.get(n);
    }

    private boolean has(int n) {
        return n >= 0 && n < parts.size();
    }

    private boolean isRod(int n) {
        return at(n).kind == 2 || at(n).kind == 3;
    }

    boolean tray(int t, int s, int many) {
        if (t < 0 || t > 5 || s < 0 || s > 2) return bad(1);
        if (many < 0) return bad(6);
        if (many > 16) return bad(7);
        sort[t] = s;
        row[t] = new long[many];
        return yes();
    }

    private int place(int t, int i) {
        return t < 0 || t > 5 ? 1 : row[t] == null ? 3 : i < 0 || i >= row[t].length ? 4 : 0;
    }

    boolean write(int t, int i, long v) {
        int s = place(t, i);
        if (s != 0) return bad(s);
        row[t][i] = sort[t] == 0 ? (short) v : sort[t] == 1 ? (int) v : v;
        return yes();
    }

    long read(int t, int i) {
        int s = place(t, i);
        if (s != 0) return no(s);
        status = 0;
        return row[t][i];
    }

    boolean pour(int t, int i, int to, int j, int many) {
        if (t < 0 || t > 5 || to < 0 || to > 5) return bad(1);
        if (row[t] == null || row[to] == null) return bad(3);
        if (sort[t] != sort[to]) return bad(12);
        if (many < 0) return bad(6);
        if (i < 0 || j < 0 || many > row[t].length - i || many > row[to].length - j) return bad(4);
        long[] was = row[t].clone();
        for (int k = 0; k < many; k++) row[to][j + k] = was[i + k];
        return yes();
    }

    private long add(P p) {
        if (parts.size() == 60) return no(10);
        parts.add(p);
        status = 0;
        return parts.size() - 1;
    }

    long weight(long w) {
        if (w < 1 || w > 1000000) return no(7);
        P p = new P();
        p.kind = 1;
        p.own = (int) w;
        return add(p);
    }

    long load(int t, int i) {
        int s = place(t, i);
        return s != 0 ? no(s) : weight(row[t][i]);
    }

    long rod(int len, int heft, boolean isShort) {
        if (len < 2 || len > 1000 || heft < 0 || heft > 1000) return no(7);
        P p = new P();
        p.kind = isShort ? 3 : 2;
        p.own = len * heft;
        p.len = len;
        p.heft = heft;
        return add(p);
    }

    long plate(int t, int n) {
        if (t < 0 || t > 5) return no(1);
        if (row[t] == null) return no(3);
        if (n < 3 || n > 8) return no(7);
        if (row[t].length < 2 * n) return no(4);
        long[] c = Arrays.copyOf(row[t], 2 * n);
        for (long v : c) if (v < -1000 || v > 1000) return no(7);
        if (touches(c)) return no(12);
        P p = new P();
        p.kind = 4;
        p.corner = c;
        long twice = 0;
        for (int i = 0; i < n; i++) twice += cross(c, i);
        p.own = (int) Math.abs(twice);
        return add(p);
    }

    private static long cross(long[] c, int i) {
        int n = c.length / 2;
        int j = (i + 1) % n;
        return c[2 * i] * c[2 * j + 1] - c[2 * j] * c[2 * i + 1];
    }

    /** Each pair of sides: are there points in common, but for the corner of neighbours? */
    private static boolean touches(long[] c) {
        int n = c.length / 2;
        for (int i = 0; i < n; i++) {
            int j = (i + 1) % n;
            if (c[2 * i] == c[2 * j] && c[2 * i + 1] == c[2 * j + 1]) return true;
        }
        for (int i = 0; i < n; i++) {
            for (int j = 0; j < n; j++) {
                if (i != j && common(c, i, j)) return true;
            }
        }
        return false;
    }

    /** Sides a + t r and b + u s, by t and u as fractions. */
    private static boolean common(long[] c, int i, int j) {
        int n = c.length / 2;
        int i2 = (i + 1) % n;
        int j2 = (j + 1) % n;
        long rx = c[2 * i2] - c[2 * i], ry = c[2 * i2 + 1] - c[2 * i + 1];
        long sx = c[2 * j2] - c[2 * j], sy = c[2 * j2 + 1] - c[2 * j + 1];
        long dx = c[2 * j] - c[2 * i], dy = c[2 * j + 1] - c[2 * i + 1];
        long under = rx * sy - ry * sx;
        if (under != 0) {
            long t = dx * sy - dy * sx, u = dx * ry - dy * rx;
            if (under < 0) {
                under = -under;
                t = -t;
                u = -u;
            }
            boolean both = t >= 0 && t <= under && u >= 0 && u <= under;
            // Neighbours that are not on one line meet in their corner alone.
            return both && i2 != j && j2 != i;
        }
        if (dx * ry - dy * rx != 0) return false;
        long from = dx * rx + dy * ry, to = (dx + sx) * rx + (dy + sy) * ry, whole = rx * rx + ry * ry;
        long low = Math.max(0, Math.min(from, to)), high = Math.min(whole, Math.max(from, to));
        boolean next = i2 == j || j2 == i;
        return next ? low < high : low <= high;
    }

    private int top(int n) {
        while (at(n).on >= 0) n = at(n).on;
        return n;
    }

    private int height(int n) {
        return at(n).on < 0 ? 0 : at(n).thread + height(at(n).on);
    }

    long part(int n, int what) {
        if (!has(n)) return no(2);
        if (what < 0 || what > 6) return no(7);
        status = 0;
        P p = at(n);
        return new int[] {p.kind, p.own, p.on, p.end, p.thread, height(n), top(n)}[what];
    }

    private int rodStatus(int n) {
        return !has(n) ? 2 : !isRod(n) ? 5 : 0;
    }

    private int topStatus(int n) {
        return !has(n) ? 2 : at(n).on >= 0 ? 8 : 0;
    }

    long rodAt(int n, int what) {
        int s = rodStatus(n);
        if (s != 0) return no(s);
        if (what < 0 || what > 5) return no(7);
        status = 0;
        P p = at(n);
        return new int[] {p.len, p.heft, p.p, p.q, p.kid[0], p.kid[1]}[what];
    }

    long middle(int n, int what) {
        if (!has(n)) return no(2);
        if (at(n).kind != 4) return no(5);
        if (what < 0 || what > 3) return no(7);
        status = 0;
        long[] c = at(n).corner;
        BigInteger over = BigInteger.ZERO, under = BigInteger.ZERO;
        for (int i = 0; i < c.length / 2; i++) {
            int j = (i + 1) % (c.length / 2);
            int k = what / 2;
            over = over.add(BigInteger.valueOf((c[2 * i + k] + c[2 * j + k]) * cross(c, i)));
            under = under.add(BigInteger.valueOf(3 * cross(c, i)));
        }
        BigInteger g = over.gcd(under);
        if (under.signum() < 0) g = g.negate();
        return (what % 2 == 0 ? over : under).divide(g).longValueExact();
    }

    private boolean below(int n, int upper) {
        for (int i = n; i >= 0; i = at(i).on) if (i == upper) return true;
        return false;
    }

    boolean hang(int n, int r, int end, int thread) {
        if (!has(n) || !has(r)) return bad(2);
        if (!isRod(r) || at(r).kind == 3 && isRod(n)) return bad(5);
        if (end < 0 || end > 1 || thread < 1 || thread > 1000 || below(r, n)) return bad(7);
        if (at(n).on >= 0 || at(r).kid[end] >= 0) return bad(8);
        at(r).kid[end] = n;
        at(n).on = r;
        at(n).end = end;
        at(n).thread = thread;
        return yes();
    }

    private void off(int n) {
        at(at(n).on).kid[at(n).end] = -1;
        at(n).on = -1;
        at(n).end = -1;
        at(n).thread = 0;
    }

    boolean take(int n) {
        if (!has(n)) return bad(2);
        if (at(n).on < 0) return bad(8);
        off(n);
        return yes();
    }

    boolean thread(int n, int length) {
        if (!has(n)) return bad(2);
        if (at(n).on < 0) return bad(8);
        if (length < 1 || length > 1000) return bad(7);
        at(n).thread = length;
        return yes();
    }

    boolean tied(int n, int p, int q) {
        int s = rodStatus(n);
        if (s != 0) return bad(s);
        if (q < 2 || q > 1000000 || p < 1 || p > q - 1) return bad(7);
        at(n).p = p;
        at(n).q = q;
        return yes();
    }

    boolean swap(int n) {
        int s = rodStatus(n);
        if (s != 0) return bad(s);
        int[] kid = at(n).kid;
        at(n).kid = new int[] {kid[1], kid[0]};
        for (int e = 0; e < 2; e++) if (at(n).kid[e] >= 0) at(at(n).kid[e]).end = e;
        return yes();
    }

    private long sum(int n) {
        if (n < 0) return 0;
        return at(n).own + sum(at(n).kid[0]) + sum(at(n).kid[1]);
    }

    long bears(int n) {
        if (!has(n)) return no(2);
        status = 0;
        return sum(n);
    }

    /** The sign of the left moment less the right one, of the words of the document times 2 q q. */
    private int lean(int n, long left, long right) {
        P r = at(n);
        return side(left, r, r.p).compareTo(side(right, r, r.q - r.p));
    }

    private BigInteger side(long load, P r, int p) {
        BigInteger x = BigInteger.valueOf(r.len).multiply(BigInteger.valueOf(p));
        return BigInteger.valueOf(2 * load).multiply(x).multiply(BigInteger.valueOf(r.q))
                .add(BigInteger.valueOf(r.heft).multiply(x).multiply(x));
    }

    private int lean(int n) {
        return lean(n, sum(at(n).kid[0]), sum(at(n).kid[1]));
    }

    long tilts(int n) {
        int s = rodStatus(n);
        if (s != 0) return no(s);
        status = 0;
        return new int[] {2, 0, 1}[lean(n) + 1];
    }

    private List<Integer> rods(int top) {
        List<Integer> all = new ArrayList<>();
        for (int i = 0; i < parts.size(); i++) if (isRod(i) && top(i) == top) all.add(i);
        return all;
    }

    private List<Integer> weights(int top) {
        List<Integer> all = new ArrayList<>();
        for (int i = 0; i < parts.size(); i++) if (at(i).kind == 1 && top(i) == top) all.add(i);
        return all;
    }

    private int wrongs(int top) {
        int n = 0;
        for (int r : rods(top)) if (lean(r) != 0) n++;
        return n;
    }

    long wrong(int top) {
        int s = topStatus(top);
        if (s != 0) return no(s);
        status = 0;
        return wrongs(top);
    }

    /** The middle of all weight, as a part of the length; null if it is not between the ends. */
    private long[] level(int n) {
        P r = at(n);
        long right = sum(r.kid[1]);
        BigInteger over = BigInteger.valueOf(2 * right * r.len + (long) r.heft * r.len * r.len);
        BigInteger under = BigInteger.valueOf(2 * sum(n) * r.len);
        if (over.signum() == 0 || over.compareTo(under) >= 0) return null;
        BigInteger g = over.gcd(under);
        return new long[] {over.divide(g).longValueExact(), under.divide(g).longValueExact()};
    }

    long tie(int n, int what) {
        int s = rodStatus(n);
        if (s != 0) return no(s);
        if (what < 0 || what > 1) return no(7);
        long[] l = level(n);
        if (l == null) return no(11);
        status = 0;
        return l[what];
    }

    long all(int top) {
        int s = topStatus(top);
        if (s != 0) return no(s);
        for (int r : rods(top)) if (level(r) == null) return no(11);
        for (int r : rods(top)) {
            long[] l = level(r);
            at(r).p = (int) l[0];
            at(r).q = (int) l[1];
        }
        status = 0;
        return rods(top).size();
    }

    private boolean whole(int r) {
        return (long) at(r).len * at(r).p % at(r).q == 0;
    }

    /** Arms from a part up to below the stop: all, longest; null if one is not whole. */
    private int[] arms(int n, int stop) {
        int all = 0, longest = 0;
        for (int i = n; at(i).on >= 0 && at(i).on != stop; i = at(i).on) {
            P r = at(at(i).on);
            if (!whole(at(i).on)) return null;
            int left = (int) ((long) r.len * r.p / r.q);
            int arm = at(i).end == 0 ? left : r.len - left;
            all += arm;
            longest = Math.max(longest, arm);
        }
        return new int[] {Math.max(0, 2 * longest - all), all};
    }

    long reach(int n, int r, boolean greatest) {
        if (!has(n) || !has(r)) return no(2);
        if (!isRod(r)) return no(5);
        if (n == r || !below(n, r)) return no(8);
        int[] span = arms(n, at(r).on);
        if (span == null) return no(9);
        status = 0;
        return span[greatest ? 1 : 0];
    }

    long lowest(int top) {
        int s = topStatus(top);
        if (s != 0) return no(s);
        status = 0;
        int best = -1;
        for (int i = 0; i < parts.size(); i++) {
            if (top(i) == top && (best < 0 || height(i) > height(best))) best = i;
        }
        return best;
    }

    private int lastAbove(int a, int b) {
        for (int r = at(a).on; r >= 0; r = at(r).on) if (below(b, r)) return r;
        throw new IllegalStateException();
    }

    /** Whole distances are enough: all bounds are whole. */
    private boolean near(int a, int b) {
        int r = lastAbove(a, b);
        int[] x = arms(a, r), y = arms(b, r);
        int len = at(r).len;
        for (int i = x[0]; i <= x[1]; i++) {
            for (int j = y[0]; j <= y[1]; j++) {
                if (len <= i + j && len >= i - j && len >= j - i) return true;
            }
        }
        return false;
    }

    long clash(int a, int b) {
        if (!has(a) || !has(b) || a == b) return no(2);
        if (at(a).kind != 1 || at(b).kind != 1) return no(5);
        if (top(a) != top(b)) return no(8);
        int r = lastAbove(a, b);
        if (arms(a, r) == null || arms(b, r) == null) return no(9);
        status = 0;
        return height(a) == height(b) && near(a, b) ? 1 : 0;
    }

    private int wholeStatus(int top) {
        int s = topStatus(top);
        if (s != 0) return s;
        for (int r : rods(top)) if (!whole(r)) return 9;
        return 0;
    }

    long clashes(int top) {
        int s = wholeStatus(top);
        if (s != 0) return no(s);
        int n = 0;
        for (int a : weights(top)) for (int b : weights(top)) if (a < b && height(a) == height(b) && near(a, b)) n++;
        status = 0;
        return n;
    }

    private List<int[]> pairs;
    private List<Integer> hanging;

    long clear(int top) {
        int s = wholeStatus(top);
        if (s != 0) return no(s);
        pairs = new ArrayList<>();
        for (int a : weights(top)) for (int b : weights(top)) if (a < b && near(a, b)) pairs.add(new int[] {a, b});
        hanging = new ArrayList<>();
        for (int i = 0; i < parts.size(); i++) if (top(i) == top && i != top) hanging.add(i);
        tries = 0;
        for (int total = 0; total <= 5; total++) {
            int ended = choose(0, total);
            if (ended == 10) return no(10);
            if (ended == 1) {
                status = 0;
                return total;
            }
        }
        return no(11);
    }

    /** Threads are longer while it looks; they stay so where it finds. */
    private int choose(int i, int rest) {
        if (i == hanging.size()) {
            if (rest > 0) return 0;
            if (++tries > 20000) return 10;
            int[] high = new int[parts.size()];
            for (int[] p : pairs) {
                for (int n : p) if (high[n] == 0) high[n] = height(n);
                if (high[p[0]] == high[p[1]]) return 0;
            }
            return 1;
        }
        P p = at(hanging.get(i));
        int was = p.thread;
        for (int more = rest; more >= 0; more--) {
            if (was + more > 1000) continue;
            p.thread = was + more;
            int ended = choose(i + 1, rest - more);
            if (ended == 1) return 1;
            p.thread = was;
            if (ended != 0) return ended;
        }
        return 0;
    }

    private List<int[]> ends;
    private int[] goal;
    private long[] numbers;
    private int[] spot;
    private Set<String> seen;
    private int[] first;

    private void freeEnds(int r) {
        for (int e = 0; e < 2; e++) {
            if (at(r).kid[e] < 0) ends.add(new int[] {r, e});
            else freeEnds(at(r).kid[e]);
        }
    }

    private int shapeStatus(int top, int t) {
        if (!isRod(top)) return 5;
        if (row[t].length < 2 || row[t].length > 10) return 7;
        for (long v : row[t]) if (v < 1 || v > 1000000) return 7;
        if (at(top).on >= 0) return 8;
        for (int i = 0; i < parts.size(); i++) {
            if (top(i) == top && (!isRod(i) || at(i).heft != 0 || !whole(i))) return 9;
        }
        ends = new ArrayList<>();
        freeEnds(top);
        return ends.size() < 2 || ends.size() > 8 ? 9 : 0;
    }

    private void look(int top, int t) {
        numbers = row[t];
        spot = new int[numbers.length];
        seen = new HashSet<>();
        first = null;
        long[] had = new long[ends.size()];
        // The total alone tells what each place must have: more than that is never tried.
        long total = 0;
        for (long v : numbers) total += v;
        double[] most = new double[ends.size()];
        for (int e = 0; e < ends.size(); e++) {
            most[e] = total;
            int r = ends.get(e)[0], end = ends.get(e)[1];
            while (r >= 0) {
                double left = (double) at(r).p / at(r).q;
                most[e] *= end == 0 ? 1 - left : left;
                end = at(r).end;
                r = at(r).on;
            }
        }
        assign(0, had, most, top);
    }

    private void assign(int i, long[] had, double[] most, int top) {
        if (i == numbers.length) {
            for (long h : had) if (h == 0) return;
            if (!levelWith(had, top)) return;
            if (first == null) first = spot.clone();
            List<String> each = new ArrayList<>();
            for (int k = 0; k < numbers.length; k++) each.add(numbers[k] + "@" + spot[k]);
            each.sort(null);
            seen.add(each.toString());
            return;
        }
        for (int e = 0; e < had.length; e++) {
            if (had[e] + numbers[i] > most[e] + 0.01) continue;
            had[e] += numbers[i];
            spot[i] = e;
            assign(i + 1, had, most, top);
            had[e] -= numbers[i];
        }
    }

    private long with(int r, int end, long[] had) {
        int kid = at(r).kid[end];
        if (kid >= 0) return with(kid, 0, had) + with(kid, 1, had);
        for (int e = 0; e < had.length; e++) if (ends.get(e)[0] == r && ends.get(e)[1] == end) return had[e];
        throw new IllegalStateException();
    }

    private boolean levelWith(long[] had, int top) {
        for (int r : rods(top)) if (lean(r, with(r, 0, had), with(r, 1, had)) != 0) return false;
        return true;
    }

    long ways(int top, int t) {
        if (t < 0 || t > 5) return no(1);
        if (!has(top)) return no(2);
        if (row[t] == null) return no(3);
        int s = shapeStatus(top, t);
        if (s != 0) return no(s);
        look(top, t);
        status = 0;
        return seen.size();
    }

    long fill(int top, int t, int k) {
        if (t < 0 || t > 5) return no(1);
        if (!has(top)) return no(2);
        if (row[t] == null) return no(3);
        if (k < 0 || k >= row[t].length) return no(4);
        int s = shapeStatus(top, t);
        if (s != 0) return no(s);
        look(top, t);
        if (first == null) return no(11);
        status = 0;
        return first[k];
    }

    private long sumWithout(int n, List<Integer> set) {
        if (n < 0 || set.contains(n)) return 0;
        return at(n).own + sumWithout(at(n).kid[0], set) + sumWithout(at(n).kid[1], set);
    }

    private boolean levelWithout(int top, List<Integer> set) {
        for (int r : rods(top)) {
            if (lean(r, sumWithout(at(r).kid[0], set), sumWithout(at(r).kid[1], set)) != 0) return false;
        }
        return true;
    }

    long fewest(int top, int k) {
        if (!has(top)) return no(2);
        if (!isRod(top)) return no(5);
        if (k < 0 || k > 14) return no(7);
        if (at(top).on >= 0) return no(8);
        if (wrongs(top) > 0) return no(9);
        List<Integer> all = weights(top);
        if (all.size() > 14) return no(10);
        List<Integer> best = null;
        for (int bits = 0; bits < 1 << all.size(); bits++) {
            List<Integer> set = new ArrayList<>();
            for (int i = 0; i < all.size(); i++) if ((bits >> i & 1) == 1) set.add(all.get(i));
            if (set.size() >= k && (best == null || ahead(set, best)) && levelWithout(top, set)) best = set;
        }
        if (best == null) return no(11);
        kept = best;
        status = 0;
        return kept.size();
    }

    private static boolean ahead(List<Integer> a, List<Integer> b) {
        if (a.size() != b.size()) return a.size() < b.size();
        for (int n = 0; n < 60; n++) if (a.contains(n) != b.contains(n)) return a.contains(n);
        return false;
    }

    long suspect(int i) {
        return i >= 0 && i < kept.size() ? kept.get(i) : -1;
    }

    long cut() {
        int n = 0;
        for (int i : kept) {
            if (at(i).on >= 0) {
                off(i);
                n++;
            }
        }
        status = 0;
        return n;
    }

    private boolean alike(int a, int b) {
        if (a < 0 || b < 0) return a < 0 && b < 0;
        P x = at(a), y = at(b);
        if (x.kind != y.kind || x.thread != y.thread) return false;
        if (!isRod(a)) return x.own == y.own;
        if (x.len != y.len || x.heft != y.heft) return false;
        BigInteger here = BigInteger.valueOf(x.p).multiply(BigInteger.valueOf(y.q));
        boolean as = here.equals(BigInteger.valueOf(y.p).multiply(BigInteger.valueOf(x.q)));
        boolean round = here.equals(BigInteger.valueOf(y.q - y.p).multiply(BigInteger.valueOf(x.q)));
        return as && alike(x.kid[0], y.kid[0]) && alike(x.kid[1], y.kid[1])
                || round && alike(x.kid[0], y.kid[1]) && alike(x.kid[1], y.kid[0]);
    }

    long same(int a, int b) {
        if (!has(a) || !has(b)) return no(2);
        if (at(a).on >= 0 || at(b).on >= 0) return no(8);
        status = 0;
        return alike(a, b) ? 1 : 0;
    }

    private String text(int n) {
        P p = at(n);
        if (p.kind == 1) return "" + p.own;
        if (p.kind == 4) return "p" + p.own;
        return "(" + sideText(p.kid[0]) + "," + p.p + "/" + p.q + "," + sideText(p.kid[1]) + ")";
    }

    private String sideText(int n) {
        return n < 0 ? "-" : at(n).thread + ":" + text(n);
    }

    long show(int top) {
        int s = topStatus(top);
        if (s != 0) return no(s);
        status = 0;
        out = text(top);
        return out.length();
    }

    /** -2 where there is no such byte. */
    long out(int k) {
        return k >= 0 && k < Math.min(600, out.length()) ? out.charAt(k) : -2;
    }

    int count() {
        return parts.size();
    }

    List<Integer> tops() {
        List<Integer> all = new ArrayList<>();
        for (int i = 0; i < parts.size(); i++) if (at(i).on < 0) all.add(i);
        return all;
    }
}
