import java.util.ArrayList;
import java.util.List;
import java.util.Random;

/** Runs of calls, drawn with fixed seeds, on the program and on the model. */
public final class OracleTest {
    private static final int[] EDGES = {Integer.MIN_VALUE, -2, -1, 0, 1, 2, 3, 5, 6, 7, 14, 15, 16, 17, 59, 60, 61,
        999, 1000, 1001, 1000000, 1000001, Integer.MAX_VALUE};

    public static void main(String[] args) {
        for (int seed = 0; seed < 400; seed++) {
            anything(drawn(seed), new Both("anything " + seed));
            mobiles(drawn(seed), new Both("mobiles " + seed));
            shapes(drawn(seed), new Both("shapes " + seed));
            twins(drawn(seed), new Both("twins " + seed));
            plates(drawn(seed), new Both("plates " + seed));
            crowds(drawn(seed), new Both("crowds " + seed));
        }
        System.out.println("found: " + FOUND);
        Due.end();
    }

    /** Seeds that are next to one another would begin alike. */
    private static Random drawn(int seed) {
        return new Random((seed + 1) * 0x9E3779B97F4A7C15L);
    }

    /** How often each call that searches found something: a run that never does so tells little. */
    private static final java.util.TreeMap<String, Integer> FOUND = new java.util.TreeMap<>();

    private static void note(String call, long answer, int status) {
        FOUND.merge(call + (status != 0 ? " STATUS " + status : answer > 0 ? " above 0" : " 0"), 1, Integer::sum);
    }

    private static int some(Random r, int below) {
        return r.nextInt(20) == 0 ? EDGES[r.nextInt(EDGES.length)] : r.nextInt(below);
    }

    private static int aPart(Random r, Both b) {
        return r.nextInt(30) == 0 ? EDGES[r.nextInt(EDGES.length)] : r.nextInt(Math.max(1, b.m.count()));
    }

    private static int aTop(Random r, Both b) {
        List<Integer> tops = b.m.tops();
        return tops.isEmpty() || r.nextInt(10) == 0 ? aPart(r, b) : tops.get(r.nextInt(tops.size()));
    }

    private static void anything(Random r, Both b) {
        for (int n = 0; n < 300; n++) {
            step(r, b, r.nextInt(60));
        }
        b.whole();
    }

    private static void step(Random r, Both b, int what) {
        if (what < 20) {
            build(r, b, what);
        } else if (what < 40) {
            change(r, b, what - 20);
        } else {
            ask(r, b, what - 40);
        }
    }

    private static void build(Random r, Both b, int what) {
        switch (what) {
            case 0 -> b.tray(some(r, 6), some(r, 3), some(r, 17));
            case 1, 2, 3 -> b.write(some(r, 6), some(r, 12), r.nextInt(5) == 0 ? r.nextLong() : r.nextInt(12));
            case 4 -> b.read(some(r, 6), some(r, 12));
            case 5 -> b.pour(some(r, 6), some(r, 6), some(r, 6), some(r, 6), some(r, 5) - (r.nextInt(9) == 0 ? 3 : 0));
            case 6, 7, 8 -> b.weight(some(r, 9));
            case 9 -> b.load(some(r, 6), some(r, 10));
            case 10, 11, 12 -> b.rod(some(r, 12), r.nextInt(3) == 0 ? some(r, 4) : 0, r.nextInt(6) == 0);
            case 13 -> b.plate(some(r, 6), some(r, 9));
            default -> b.hang(aPart(r, b), aPart(r, b), some(r, 2), some(r, 6));
        }
    }

    private static void change(Random r, Both b, int what) {
        switch (what) {
            case 0, 1 -> b.take(aPart(r, b));
            case 2, 3 -> b.thread(aPart(r, b), some(r, 9));
            case 4, 5 -> b.tied(aPart(r, b), some(r, 4), some(r, 7));
            case 6 -> b.swap(aPart(r, b));
            case 7, 8 -> b.all(aTop(r, b));
            case 9 -> note("clear", b.clear(aTop(r, b)), b.x.status());
            case 10 -> note("fewest", b.fewest(aTop(r, b), some(r, 5)), b.x.status());
            case 11 -> b.cut();
            case 12 -> b.show(aTop(r, b));
            default -> b.hang(aPart(r, b), aPart(r, b), some(r, 2), some(r, 6));
        }
    }

    private static void ask(Random r, Both b, int what) {
        switch (what) {
            case 0 -> b.part(aPart(r, b), some(r, 8) - 1);
            case 1 -> b.rodAt(aPart(r, b), some(r, 8) - 1);
            case 2 -> b.middle(aPart(r, b), some(r, 6) - 1);
            case 3 -> b.bears(aPart(r, b));
            case 4 -> b.tilts(aPart(r, b));
            case 5 -> b.wrong(aTop(r, b));
            case 6 -> b.tie(aPart(r, b), some(r, 4) - 1);
            case 7, 8 -> b.reach(aPart(r, b), aPart(r, b), r.nextBoolean());
            case 9 -> b.lowest(aTop(r, b));
            case 10, 11 -> note("clash", b.clash(aPart(r, b), aPart(r, b)), b.x.status());
            case 12 -> note("clashes", b.clashes(aTop(r, b)), b.x.status());
            case 13 -> note("ways", b.ways(aTop(r, b), some(r, 6)), b.x.status());
            case 14 -> b.fill(aTop(r, b), some(r, 6), some(r, 10));
            case 15 -> b.suspect(some(r, 6));
            case 16, 17 -> note("same", b.same(aTop(r, b), aTop(r, b)), b.x.status());
            case 18 -> b.show(aTop(r, b));
            default -> b.out(some(r, 40));
        }
    }

    private static void write(Both b, int tray, long... row) {
        b.tray(tray, 2, row.length);
        for (int i = 0; i < row.length; i++) {
            b.write(tray, i, row[i]);
        }
    }

    /** A mobile of so many rods at most whose ends bear weights, but for some. */
    private static int grow(Random r, Both b, int rods, int heft, int[] left) {
        int rod = b.rod(2 * (1 + r.nextInt(Math.max(1, 6 - left[0]))), heft == 0 ? 0 : r.nextInt(heft), false);
        left[0]--;
        for (int end = 0; end < 2; end++) {
            int kind = r.nextInt(8);
            if (left[0] > 0 && kind < 5) {
                int below = grow(r, b, rods, heft, left);
                b.hang(below, rod, end, 1 + r.nextInt(3));
            } else if (kind < 7) {
                b.hang(b.weight(1 + r.nextInt(6)), rod, end, 1 + r.nextInt(4));
            }
        }
        return rod;
    }

    private static void mobiles(Random r, Both b) {
        int rods = 2 + r.nextInt(6);
        int top = grow(r, b, rods, r.nextInt(3), new int[] {rods});
        for (int n = 0; n < 6; n++) {
            b.clashes(top);
            int a = aPart(r, b);
            for (int p = 0; p < b.m.count(); p++) {
                note("clash", b.clash(a, p), b.x.status());
                b.reach(p, top, r.nextBoolean());
            }
            note("clear", b.clear(top), b.x.status());
            b.whole();
            b.clashes(top);
            b.lowest(top);
            if (n == 3) {
                note("all", b.all(top), b.x.status());
                note("fewest", b.fewest(top, r.nextInt(6)), b.x.status());
            }
            b.thread(aPart(r, b), r.nextInt(12) == 0 ? 1000 - r.nextInt(3) : 1 + r.nextInt(3));
            b.tied(aPart(r, b), 1 + r.nextInt(2), 2 + r.nextInt(2));
            b.swap(aPart(r, b));
        }
        b.show(top);
        for (int k = 0; k < 30; k++) {
            b.out(r.nextInt(90));
        }
    }

    /** Rods alone, tied at whole arms. */
    private static int shape(Random r, Both b, int[] left) {
        int length = 2 + r.nextInt(4);
        int rod = b.rod(length, 0, left[0] == 1 && r.nextInt(4) == 0);
        b.tied(rod, 1 + r.nextInt(length - 1), length);
        left[0]--;
        for (int end = 0; end < 2; end++) {
            if (left[0] > 0 && r.nextBoolean()) {
                b.hang(shape(r, b, left), rod, end, 1);
            }
        }
        return rod;
    }

    private static void shapes(Random r, Both b) {
        int rods = 1 + r.nextInt(8);
        int top = shape(r, b, new int[] {rods});
        if (r.nextInt(20) == 0) {
            b.hang(b.weight(1), aPart(r, b), r.nextInt(2), 1);
        }
        for (int n = 0; n < 12; n++) {
            int many = r.nextInt(15) == 0 ? r.nextInt(13) : 2 + r.nextInt(9);
            int most = 2 + r.nextInt(9);
            long[] row = new long[many];
            long total = 0;
            for (int i = 0; i < many; i++) {
                row[i] = r.nextInt(80) == 0 ? 0 : 1 + r.nextInt(most);
                total += row[i];
            }
            // A total with many divisors can be parted more often.
            if (many > 0 && r.nextInt(3) > 0) {
                row[r.nextInt(many)] += 60 - total % 60;
            } else if (many > 0 && r.nextBoolean()) {
                row[r.nextInt(many)] += 12 - total % 12;
            }
            write(b, 0, row);
            note("ways", b.ways(top, 0), b.x.status());
            for (int k = 0; k < many; k++) {
                note("fill", b.fill(top, 0, k), b.x.status());
            }
            b.fill(top, 0, many);
        }
    }

    /** The same mobile twice, the second with ends changed here and there, and sometimes a thing in it. */
    private static void twins(Random r, Both b) {
        List<Integer> copies = new ArrayList<>();
        int a = twin(r, b, 3, copies);
        int c = copies.remove(copies.size() - 1);
        note("same", b.same(a, c), b.x.status());
        note("same", b.same(a, a), b.x.status());
        for (int n = 0; n < 5; n++) {
            int p = aPart(r, b);
            switch (r.nextInt(4)) {
                case 0 -> b.swap(p);
                case 1 -> b.thread(p, 1 + r.nextInt(2));
                case 2 -> b.tied(p, 1 + r.nextInt(3), 4);
                default -> b.take(p);
            }
            note("same", b.same(a, c), b.x.status());
            note("same", b.same(c, a), b.x.status());
        }
        evenMobile(r, b);
    }

    private static int twin(Random r, Both b, int depth, List<Integer> copies) {
        if (depth == 0 || r.nextInt(4) == 0) {
            int heavy = 1 + r.nextInt(2);
            copies.add(b.weight(heavy));
            return b.weight(heavy);
        }
        int length = 4;
        int p = 1 + r.nextInt(3);
        int times = 1 + r.nextInt(2);
        int one = b.rod(length, 1, false);
        int other = b.rod(length, 1, false);
        boolean round = r.nextBoolean();
        b.tied(one, p, 4);
        b.tied(other, (round ? 4 - p : p) * times, 4 * times);
        for (int end = 0; end < 2; end++) {
            int thread = 1 + r.nextInt(2);
            b.hang(twin(r, b, depth - 1, copies), one, end, thread);
            b.hang(copies.remove(copies.size() - 1), other, round ? 1 - end : end, thread);
        }
        copies.add(other);
        return one;
    }

    /** A level mobile of its own for fewest() and cut(). */
    private static void evenMobile(Random r, Both b) {
        int rods = 1 + r.nextInt(5);
        int top = grow(r, b, rods, r.nextInt(5) / 3, new int[] {rods});
        note("all", b.all(top), b.x.status());
        for (int k = 0; k < 8; k++) {
            note("fewest", b.fewest(top, k), b.x.status());
            for (int i = -1; i < 8; i++) {
                b.suspect(i);
            }
        }
        b.cut();
        b.fewest(top, 0);
        b.cut();
        b.whole();
    }

    private static void plates(Random r, Both b) {
        for (int n = 0; n < 40; n++) {
            int corners = 3 + r.nextInt(4);
            int wide = r.nextInt(3) == 0 ? 1000 : 2 + r.nextInt(5);
            long[] row = new long[2 * corners];
            for (int i = 0; i < row.length; i++) {
                row[i] = r.nextInt(2 * wide + 1) - wide;
            }
            write(b, 0, row);
            int plate = b.plate(0, corners);
            note("plate", plate + 1, b.x.status());
            b.part(plate, 1);
            for (int what = 0; what < 4; what++) {
                b.middle(plate, what);
            }
        }
    }

    /** Mobiles in which much can meet, so that clear() has to look far. */
    private static void crowds(Random r, Both b) {
        if (r.nextInt(8) != 0) {
            return;
        }
        int top = full(r, b, 2 + r.nextInt(3));
        note("clear", b.clear(top), b.x.status());
        b.whole();
        b.clashes(top);
        note("clear", b.clear(top), b.x.status());
        b.show(top);
        b.out(599);
        b.out(600);
    }

    private static int full(Random r, Both b, int depth) {
        if (depth == 0) {
            return b.weight(1);
        }
        int rod = b.rod(2 * (1 + r.nextInt(2)) + (depth == 1 ? 6 : depth == 2 ? 2 : 0), 0, false);
        for (int end = 0; end < 2; end++) {
            b.hang(full(r, b, depth - 1), rod, end, r.nextInt(20) == 0 ? 999 : 1 + r.nextInt(10) / 9);
        }
        return rod;
    }
}
