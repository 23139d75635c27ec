/** Promises 29 to 36: ways, fill, fewest, suspect, cut, same, show, out. */
public final class PartingTest {
    public static void main(String[] args) {
        waysStatus();
        noShape();
        ways();
        likeNumbers();
        places();
        greatest();
        fewest();
        fewestMany();
        kept();
        same();
        sameRods();
        show();
        longShow();
        deep();
        Due.end();
    }

    private static void waysStatus() {
        MobileMaker x = new MobileMaker();
        int rod = x.rod(2, 0, false);
        int w = x.weight(1);
        int hung = x.rod(2, 0, false);
        x.hang(hung, rod, 0, 1);
        Due.none(x, "no tray", x.ways(9, 6), 1);
        Due.none(x, "no part", x.ways(9, 0), 2);
        Due.none(x, "missing", x.ways(w, 0), 3);
        Due.none(x, "fill: no tray", x.fill(9, -1, -1), 1);
        Due.none(x, "fill: no part", x.fill(9, 0, -1), 2);
        Due.none(x, "fill: missing", x.fill(w, 0, -1), 3);
        PartsTest.numbers(x, 0, 1);
        Due.none(x, "no rod", x.ways(w, 0), 5);
        Due.none(x, "fill: no such number", x.fill(w, 0, 1), 4);
        Due.none(x, "fill: no such number", x.fill(w, 0, -1), 4);
        Due.none(x, "fill: no rod", x.fill(w, 0, 0), 5);
        Due.none(x, "one number", x.ways(hung, 0), 7);
        PartsTest.numbers(x, 0, 1, 1, 1, 1, 1, 1, 1, 1, 1, 1, 1);
        Due.none(x, "11 numbers", x.ways(hung, 0), 7);
        PartsTest.numbers(x, 0, 1, 0, 1, 1);
        Due.none(x, "0", x.ways(hung, 0), 7);
        PartsTest.numbers(x, 0, 1, 1000001, 1, 1);
        Due.none(x, "1000001", x.fill(hung, 0, 0), 7);
        x.tray(0, 2, 0);
        Due.none(x, "no numbers", x.ways(rod, 0), 7);
        Due.none(x, "fill: no numbers", x.fill(rod, 0, 0), 4);
        PartsTest.numbers(x, 0, 1, 1, 2);
        Due.none(x, "it hangs", x.ways(hung, 0), 8);
        Due.none(x, "it hangs", x.fill(hung, 0, 2), 8);
        Due.fine(x, "a shape", x.ways(rod, 0), 1);
    }

    private static void noShape() {
        MobileMaker x = new MobileMaker();
        int rod = x.rod(5, 0, false);
        PartsTest.numbers(x, 0, 1, 1, 2);
        Due.none(x, "arms not whole", x.ways(rod, 0), 9);
        Due.none(x, "arms not whole", x.fill(rod, 0, 0), 9);
        x.tied(rod, 2, 5);
        Due.fine(x, "whole", x.ways(rod, 0), 0);
        Due.none(x, "none", x.fill(rod, 0, 0), 11);
        int w = x.weight(1);
        x.hang(w, rod, 0, 1);
        Due.none(x, "a weight", x.ways(rod, 0), 9);
        x.take(w);
        int heavy = x.rod(2, 1, false);
        x.hang(heavy, rod, 0, 1);
        Due.none(x, "a heft", x.ways(rod, 0), 9);
        x.take(heavy);
        int shortRod = x.rod(2, 0, true);
        x.hang(shortRod, rod, 0, 1);
        PartsTest.numbers(x, 0, 3, 2, 3, 2);
        Due.fine(x, "a short", x.ways(rod, 0), 1);
        PartsTest.numbers(x, 1, 0, 0, 4, 0, 0, 4);
        int plate = x.plate(1, 3);
        x.take(shortRod);
        x.hang(plate, rod, 1, 1);
        Due.none(x, "a plate", x.ways(rod, 0), 9);
        tooManyPlaces();
    }

    private static void tooManyPlaces() {
        MobileMaker x = new MobileMaker();
        PartsTest.numbers(x, 0, 1, 1, 2, 4, 8, 16, 32, 64);
        for (int i = 0; i < 8; i++) {
            x.rod(2, 0, false);
            if (i > 0) {
                x.hang(i, i - 1, 1, 1);
            }
            if (i == 6) {
                Due.fine(x, "8 places", x.ways(0, 0), 1);
                for (int k = 0; k < 8; k++) {
                    Due.fine(x, "fill " + k, x.fill(0, 0, k), k < 2 ? 6 + k : 7 - k);
                }
            }
        }
        Due.none(x, "9 places", x.ways(0, 0), 9);
    }

    private static void ways() {
        MobileMaker x = new MobileMaker();
        int rod = x.rod(3, 0, false);
        x.tied(rod, 1, 3);
        PartsTest.numbers(x, 0, 3, 1, 2, 4, 2);
        // 8 left and 4 right: 4 is {4}, {3, 1}, {2, 2}.
        Due.fine(x, "ways", x.ways(rod, 0), 3);
        filled(x, rod, 0, 0, 0, 0, 1, 0);
        x.swap(rod);
        Due.fine(x, "as before", x.ways(rod, 0), 3);
        x.tied(rod, 2, 3);
        Due.fine(x, "the other way round", x.ways(rod, 0), 3);
        filled(x, rod, 0, 0, 0, 1, 1, 1);
        PartsTest.numbers(x, 0, 2, 3, 1, 4, 2);
        filled(x, rod, 0, 0, 1, 1, 1, 0);
        PartsTest.numbers(x, 0, 1, 1);
        Due.fine(x, "2 can't be parted in thirds", x.ways(rod, 0), 0);
        PartsTest.numbers(x, 0, 3, 3);
        Due.fine(x, "6 can, but not with these", x.ways(rod, 0), 0);
        Due.none(x, "no first one", x.fill(rod, 0, 1), 11);
        PartsTest.numbers(x, 0, 1000000, 500000);
        Due.fine(x, "great ones", x.ways(rod, 0), 1);
        filled(x, rod, 0, 1, 0);
    }

    private static void filled(MobileMaker x, int top, int tray, int... want) {
        for (int k = 0; k < want.length; k++) {
            Due.fine(x, "fill " + k, x.fill(top, tray, k), want[k]);
        }
    }

    private static void likeNumbers() {
        MobileMaker x = new MobileMaker();
        int rod = x.rod(2, 0, false);
        PartsTest.numbers(x, 0, 1, 1, 1, 1);
        Due.fine(x, "two and two", x.ways(rod, 0), 1);
        filled(x, rod, 0, 0, 0, 1, 1);
        PartsTest.numbers(x, 0, 1, 2, 1, 2);
        Due.fine(x, "one and one", x.ways(rod, 0), 1);
        filled(x, rod, 0, 0, 0, 1, 1);
        PartsTest.numbers(x, 0, 2, 1, 1, 2, 2);
        Due.fine(x, "2 2 or 2 1 1 left", x.ways(rod, 0), 2);
        filled(x, rod, 0, 0, 0, 0, 1, 1);
    }

    /** A rod with rods at both ends, the left one with one at its right end: 5 places. */
    private static void places() {
        MobileMaker x = new MobileMaker();
        int top = x.rod(2, 0, false);
        int left = x.rod(3, 0, false);
        int right = x.rod(4, 0, false);
        int low = x.rod(2, 0, false);
        x.tied(left, 2, 3);
        x.tied(right, 3, 4);
        x.hang(right, top, 1, 1);
        x.hang(left, top, 0, 1);
        x.hang(low, left, 1, 1);
        // 24: 12 left (4; 8: 4, 4), 12 right (3, 9).
        PartsTest.numbers(x, 0, 9, 4, 3, 4, 4);
        Due.fine(x, "ways", x.ways(top, 0), 1);
        filled(x, top, 0, 4, 0, 3, 1, 2);
        PartsTest.numbers(x, 0, 9, 4, 3, 3, 1, 4);
        Due.fine(x, "ways", x.ways(top, 0), 3);
        filled(x, top, 0, 4, 0, 1, 3, 1, 2);
        PartsTest.numbers(x, 0, 12, 12);
        Due.fine(x, "no place without a number", x.ways(top, 0), 0);
    }

    private static void greatest() {
        MobileMaker x = new MobileMaker();
        int rod = x.rod(2, 0, false);
        PartsTest.numbers(x, 0, 1, 2, 3, 4, 5, 6, 7, 8, 9, 1);
        Due.fine(x, "10 numbers on 2 places", x.ways(rod, 0), new Object() {
            long count() {
                java.util.Set<String> seen = new java.util.HashSet<>();
                int[] v = {1, 2, 3, 4, 5, 6, 7, 8, 9, 1};
                for (int bits = 0; bits < 1024; bits++) {
                    int sum = 0;
                    java.util.List<Integer> in = new java.util.ArrayList<>();
                    for (int i = 0; i < 10; i++) {
                        if ((bits >> i & 1) == 1) {
                            sum += v[i];
                            in.add(v[i]);
                        }
                    }
                    in.sort(null);
                    if (sum == 23) {
                        seen.add(in.toString());
                    }
                }
                return seen.size();
            }
        }.count());
        PartsTest.numbers(x, 0, 1000000, 1000000, 1000000, 1000000, 1000000, 1000000, 1000000, 1000000, 1000000,
            1000000);
        Due.fine(x, "10 of the greatest", x.ways(rod, 0), 1);
        filled(x, rod, 0, 0, 0, 0, 0, 0, 1, 1, 1, 1, 1);
    }

    private static void fewest() {
        MobileMaker x = new MobileMaker();
        int top = x.rod(4, 0, false);
        int low = x.rod(3, 0, false);
        int b = x.weight(2);
        int a = x.weight(1);
        int c = x.weight(3);
        x.hang(low, top, 1, 1);
        x.hang(a, low, 0, 1);
        x.hang(b, low, 1, 1);
        Due.none(x, "no part", x.fewest(9, -1), 2);
        Due.none(x, "a weight", x.fewest(a, -1), 5);
        Due.none(x, "k -1", x.fewest(low, -1), 7);
        Due.none(x, "k 15", x.fewest(low, 15), 7);
        Due.none(x, "it hangs", x.fewest(low, 0), 8);
        Due.none(x, "not level", x.fewest(top, 0), 9);
        x.hang(c, top, 0, 1);
        Due.none(x, "not level", x.fewest(top, 0), 9);
        Due.fine(x, "all", x.all(top), 2);
        Due.fine(x, "none of them", x.fewest(top, 0), 0);
        Due.is("nothing kept", x.suspect(0), -1);
        Due.fine(x, "all of them", x.fewest(top, 1), 3);
        Due.is("by number", x.suspect(0), b);
        Due.is("by number", x.suspect(1), a);
        Due.is("by number", x.suspect(2), c);
        Due.is("no more", x.suspect(3), -1);
        Due.is("none such", x.suspect(-1), -1);
        Due.is("none such", x.suspect(Integer.MAX_VALUE), -1);
        Due.fine(x, "three of them", x.fewest(top, 3), 3);
        Due.none(x, "four", x.fewest(top, 4), 11);
        Due.none(x, "fourteen", x.fewest(top, 14), 11);
        Due.is("still kept", x.suspect(2), c);
    }

    private static void fewestMany() {
        MobileMaker x = new MobileMaker();
        int last = x.weight(1);
        for (int i = 0; i < 14; i++) {
            int rod = x.rod(10, 0, false);
            x.hang(last, rod, 0, 1);
            x.hang(x.weight(1), rod, 1, 1);
            x.all(rod);
            last = rod;
            Due.fine(x, "weights up to here", x.wrong(rod), 0);
            if (i == 12) {
                Due.fine(x, "14 weights", x.fewest(rod, 14), 14);
                Due.is("the first", x.suspect(0), 0);
                Due.is("the last", x.suspect(13), rod + 1);
            }
        }
        Due.none(x, "15 weights", x.fewest(last, 0), 10);
        Due.none(x, "15 weights", x.fewest(last, 15), 7);
        x.tied(last, 1, 2);
        Due.none(x, "not level is ahead", x.fewest(last, 0), 9);
    }

    private static void kept() {
        MobileMaker x = new MobileMaker();
        int rod = x.rod(4, 0, false);
        int other = x.rod(4, 0, false);
        int a = x.weight(5);
        int b = x.weight(5);
        x.hang(a, rod, 0, 1);
        x.hang(b, rod, 1, 1);
        Due.fine(x, "both", x.fewest(rod, 2), 2);
        x.take(a);
        x.hang(a, other, 1, 7);
        Due.none(x, "a call refused", x.part(99, 0), 2);
        Due.fine(x, "both hang, on two rods", x.cut(), 2);
        Due.fine(x, "off", x.part(a, 2), -1);
        Due.fine(x, "off", x.part(b, 2), -1);
        Due.fine(x, "free", x.rodAt(other, 5), -1);
        Due.is("still kept", x.suspect(1), b);
        Due.fine(x, "none hangs", x.cut(), 0);
        x.hang(b, other, 0, 1);
        Due.fine(x, "one hangs again", x.cut(), 1);
        Due.fine(x, "a rod without weights", x.fewest(rod, 0), 0);
        Due.is("the next that is found", x.suspect(0), -1);
        plateAndHeft();
    }

    private static void plateAndHeft() {
        MobileMaker x = new MobileMaker();
        int rod = x.rod(4, 0, false);
        PartsTest.numbers(x, 0, 0, 0, 2, 0, 0, 2);
        x.hang(x.plate(0, 3), rod, 0, 1);
        x.hang(x.weight(4), rod, 1, 1);
        Due.fine(x, "a plate is no weight", x.fewest(rod, 0), 0);
        Due.none(x, "it stays", x.fewest(rod, 1), 11);
        int heavy = x.rod(10, 2, false);
        int w = x.weight(5);
        x.hang(w, heavy, 0, 1);
        x.all(heavy);
        Due.none(x, "a rod's own weight stays", x.fewest(heavy, 1), 11);
        int v = x.weight(5);
        x.hang(v, heavy, 1, 1);
        x.all(heavy);
        Due.fine(x, "in its middle", x.fewest(heavy, 1), 2);
        x.take(v);
        v = x.weight(7);
        x.hang(v, heavy, 1, 1);
        x.all(heavy);
        Due.none(x, "not in its middle", x.fewest(heavy, 1), 11);
    }

    private static void same() {
        MobileMaker x = new MobileMaker();
        int a = x.weight(4);
        int b = x.weight(4);
        int c = x.weight(5);
        PartsTest.numbers(x, 0, 0, 0, 2, 0, 0, 2);
        int p = x.plate(0, 3);
        PartsTest.numbers(x, 0, 0, 0, 4, 0, 0, 1);
        int q = x.plate(0, 3);
        int rod = x.rod(4, 1, false);
        Due.none(x, "no part", x.same(a, 99), 2);
        Due.none(x, "no part", x.same(-1, a), 2);
        Due.fine(x, "one weight", x.same(a, b), 1);
        Due.fine(x, "itself", x.same(a, a), 1);
        Due.fine(x, "another weight", x.same(a, c), 0);
        Due.fine(x, "a weight and a plate", x.same(a, p), 0);
        Due.fine(x, "plates of one weight", x.same(p, q), 1);
        Due.fine(x, "a rod of that weight", x.same(rod, a), 0);
        x.hang(c, rod, 0, 1);
        Due.none(x, "it hangs", x.same(c, rod), 8);
        Due.none(x, "it hangs", x.same(rod, c), 8);
    }

    /** A rod with 1 by 3 left and 2 by 4 right. */
    private static int rodOf(MobileMaker x, int length, int heft, boolean isShort, boolean round) {
        int rod = x.rod(length, heft, isShort);
        x.hang(x.weight(1), rod, round ? 1 : 0, 3);
        x.hang(x.weight(2), rod, round ? 0 : 1, 4);
        return rod;
    }

    private static void sameRods() {
        MobileMaker x = new MobileMaker();
        int rod = rodOf(x, 12, 1, false, false);
        int as = rodOf(x, 12, 1, false, false);
        int round = rodOf(x, 12, 1, false, true);
        Due.fine(x, "as it is", x.same(rod, as), 1);
        Due.fine(x, "the other way round", x.same(rod, round), 1);
        x.tied(rod, 1, 3);
        Due.fine(x, "tied elsewhere", x.same(rod, as), 0);
        x.tied(as, 4, 12);
        Due.fine(x, "tied at one place", x.same(rod, as), 1);
        x.tied(round, 4, 12);
        Due.fine(x, "tied there the other way round", x.same(rod, round), 0);
        x.tied(round, 8, 12);
        Due.fine(x, "tied at q - p", x.same(round, rod), 1);
        x.tied(as, 8, 12);
        Due.fine(x, "tied at q - p, as it was", x.same(as, rod), 0);
        x.tied(as, 1, 3);
        x.thread((int) x.rodAt(as, 4), 2);
        Due.fine(x, "another thread", x.same(as, rod), 0);
        x.thread((int) x.rodAt(as, 4), 3);
        Due.fine(x, "that thread again", x.same(as, rod), 1);
        x.take((int) x.rodAt(as, 5));
        Due.fine(x, "free", x.same(as, rod), 0);
        Due.fine(x, "free", x.same(rod, as), 0);
        x.take((int) x.rodAt(rod, 5));
        Due.fine(x, "free both", x.same(rod, as), 1);
        int plain = rodOf(x, 12, 2, false, false);
        Due.fine(x, "another kind", x.same(plain, rodOf(x, 12, 2, true, false)), 0);
        Due.fine(x, "another length", x.same(plain, rodOf(x, 24, 1, false, false)), 0);
        Due.fine(x, "another heft", x.same(plain, rodOf(x, 12, 3, false, false)), 0);
    }

    private static void show() {
        MobileMaker x = new MobileMaker();
        int rod = x.rod(10, 0, false);
        int w = x.weight(1000000);
        Due.none(x, "no part", x.show(2), 2);
        Due.text(x, w, "1000000");
        Due.text(x, rod, "(-,1/2,-)");
        x.tied(rod, 20, 40);
        x.hang(w, rod, 1, 1000);
        Due.none(x, "it hangs", x.show(w), 8);
        Due.out(x, "(-,1/2,-)");
        Due.text(x, rod, "(-,20/40,1000:1000000)");
        PartsTest.numbers(x, 0, 0, 0, 5, 0, 0, 2);
        int low = x.rod(7, 0, true);
        x.hang(low, rod, 0, 10);
        x.hang(x.plate(0, 3), low, 0, 7);
        Due.text(x, rod, "(10:(7:p10,1/2,-),20/40,1000:1000000)");
        x.swap(rod);
        Due.text(x, rod, "(1000:1000000,20/40,10:(7:p10,1/2,-))");
        x.take(low);
        Due.text(x, low, "(7:p10,1/2,-)");
        Due.is("out() leaves STATUS", x.status(), 0);
        x.part(99, 0);
        Due.is("out", x.out(0), '(');
        Due.is("out() leaves STATUS", x.status(), 2);
    }

    private static void longShow() {
        MobileMaker x = new MobileMaker();
        String want = "1000000";
        int last = x.weight(1000000);
        for (int i = 0; i < 29; i++) {
            int rod = x.rod(1000, 1000, false);
            x.tied(rod, 499999, 1000000);
            x.hang(last, rod, i % 2, 1000);
            x.hang(x.weight(77), rod, 1 - i % 2, 9);
            want = i % 2 == 0 ? "(1000:" + want + ",499999/1000000,9:77)" : "(9:77,499999/1000000,1000:" + want + ")";
            last = rod;
            Due.text(x, last, want);
        }
        Due.is("more than are kept", want.length() > 600, true);
    }

    /** 60 rods, one below the other: the deepest there is. */
    private static void deep() {
        MobileMaker x = new MobileMaker();
        StringBuilder want = new StringBuilder();
        for (int i = 0; i < 60; i++) {
            x.rod(1000, 1000, false);
            if (i > 0) {
                Due.done(x, "hang", x.hang(i, i - 1, 1, 1000));
            }
            want.append(i == 0 ? "(-,1/2," : "1000:(-,1/2,");
        }
        want.append("-").append(")".repeat(60));
        Due.text(x, 0, want.toString());
        Due.fine(x, "height", x.part(59, 5), 59000);
        Due.fine(x, "load", x.bears(0), 60000000);
        Due.fine(x, "lowest", x.lowest(0), 59);
        Due.fine(x, "reach", x.reach(59, 0, true), 29500);
        Due.fine(x, "reach", x.reach(59, 0, false), 0);
        Due.fine(x, "same", x.same(0, 0), 1);
        Due.fine(x, "wrong", x.wrong(0), 59);
        Due.fine(x, "all", x.all(0), 60);
        Due.fine(x, "wrong", x.wrong(0), 0);
        Due.fine(x, "fewest", x.fewest(0, 0), 0);
        x.take(30);
        Due.fine(x, "same", x.same(0, 30), 0);
        for (int i = 0; i < 60; i++) {
            x.tied(i, 1, 2);
        }
        Due.fine(x, "same", x.same(0, 30), 1);
        x.swap(45);
        Due.fine(x, "same", x.same(0, 30), 1);
        x.tied(46, 1, 3);
        Due.fine(x, "same", x.same(0, 30), 0);
    }
}
