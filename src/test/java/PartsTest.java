/** Promises 7 to 23: what parts are, how they hang, where they are level. */
public final class PartsTest {
    public static void main(String[] args) {
        weightAndLoad();
        rod();
        plate();
        rings();
        tooMany();
        part();
        middle();
        hang();
        takeAndThread();
        tied();
        swap();
        bears();
        tilts();
        wrong();
        tie();
        all();
        Due.end();
    }

    /** A tray of 32 bits with these numbers. */
    static void numbers(MobileMaker x, int tray, long... row) {
        x.tray(tray, 1, row.length);
        for (int i = 0; i < row.length; i++) {
            x.write(tray, i, row[i]);
        }
    }

    private static void weightAndLoad() {
        MobileMaker x = new MobileMaker();
        Due.none(x, "weight 0", x.weight(0), 7);
        Due.none(x, "weight below", x.weight(-1), 7);
        Due.none(x, "weight beyond", x.weight(1000001), 7);
        Due.fine(x, "weight 1", x.weight(1), 0);
        Due.fine(x, "weight 1000000", x.weight(1000000), 1);
        Due.none(x, "load of no tray", x.load(6, 0), 1);
        Due.none(x, "load of a missing tray", x.load(0, 0), 3);
        x.tray(0, 2, 4);
        x.write(0, 0, 1000000);
        x.write(0, 1, 1000001);
        x.write(0, 2, (1L << 32) + 5);
        Due.none(x, "load beyond", x.load(0, 4), 4);
        Due.none(x, "load below", x.load(0, -1), 4);
        Due.none(x, "load 0", x.load(0, 3), 7);
        Due.none(x, "load 1000001", x.load(0, 1), 7);
        Due.none(x, "load of 33 bits", x.load(0, 2), 7);
        Due.fine(x, "load", x.load(0, 0), 2);
        Due.fine(x, "its weight", x.part(2, 1), 1000000);
        Due.fine(x, "its kind", x.part(2, 0), 1);
    }

    private static void rod() {
        MobileMaker x = new MobileMaker();
        Due.none(x, "length 1", x.rod(1, 0, false), 7);
        Due.none(x, "length 1001", x.rod(1001, 0, true), 7);
        Due.none(x, "heft -1", x.rod(2, -1, false), 7);
        Due.none(x, "heft 1001", x.rod(2, 1001, true), 7);
        Due.fine(x, "least", x.rod(2, 0, false), 0);
        Due.fine(x, "most", x.rod(1000, 1000, true), 1);
        Due.fine(x, "kind", x.part(0, 0), 2);
        Due.fine(x, "kind of a short", x.part(1, 0), 3);
        Due.fine(x, "weight", x.part(1, 1), 1000000);
        long[] want = {1000, 1000, 1, 2, -1, -1};
        for (int what = 0; what < 6; what++) {
            Due.fine(x, "rodAt " + what, x.rodAt(1, what), want[what]);
        }
        Due.none(x, "rodAt -1", x.rodAt(1, -1), 7);
        Due.none(x, "rodAt 6", x.rodAt(1, 6), 7);
        Due.none(x, "rodAt of no part", x.rodAt(2, 9), 2);
        Due.none(x, "rodAt of no part", x.rodAt(-1, 0), 2);
        x.weight(1);
        Due.none(x, "rodAt of a weight", x.rodAt(2, 9), 5);
    }

    private static void plate() {
        MobileMaker x = new MobileMaker();
        Due.none(x, "no tray", x.plate(-1, 0), 1);
        Due.none(x, "missing", x.plate(0, 0), 3);
        numbers(x, 0, 0, 0, 1000, 0, 1000);
        Due.none(x, "2 corners", x.plate(0, 2), 7);
        Due.none(x, "9 corners", x.plate(0, 9), 7);
        Due.none(x, "corners below 0", x.plate(0, Integer.MIN_VALUE), 7);
        Due.none(x, "5 numbers", x.plate(0, 3), 4);
        Due.none(x, "8 corners of 5 numbers", x.plate(0, 8), 4);
        numbers(x, 0, 0, 0, 1001, 0, 0, 0);
        Due.none(x, "1001 ahead of touching", x.plate(0, 3), 7);
        numbers(x, 0, 0, 0, 1000, 0, 0, -1001);
        Due.none(x, "-1001", x.plate(0, 3), 7);
        x.tray(1, 2, 6);
        x.write(1, 2, 4);
        x.write(1, 5, Long.MIN_VALUE);
        Due.none(x, "far beyond", x.plate(1, 3), 7);
        x.write(1, 5, (1L << 32) + 4);
        Due.none(x, "beyond 32 bits", x.plate(1, 3), 7);
        numbers(x, 0, -1000, -1000, 1000, -1000, 1000, 1000, -1000, 1000, 5000);
        Due.fine(x, "the greatest", x.plate(0, 4), 0);
        Due.fine(x, "its weight", x.part(0, 1), 8000000);
        Due.fine(x, "its kind", x.part(0, 0), 4);
        numbers(x, 0, 0, 0, 0, 1, 1, 0);
        Due.fine(x, "the least, the other way round", x.plate(0, 3), 1);
        Due.fine(x, "its weight", x.part(1, 1), 1);
    }

    private static void rings() {
        MobileMaker x = new MobileMaker();
        touches(x, "a point", 3, 3, 3, 3, 3, 3);
        touches(x, "a side that is a point", 0, 0, 4, 0, 4, 0, 0, 4);
        touches(x, "a line", 0, 0, 4, 0, 8, 0);
        touches(x, "a line back and forth", 0, 0, 8, 0, 4, 0);
        touches(x, "crossing", 0, 0, 4, 4, 4, 0, 0, 4);
        touches(x, "a corner on a side", 0, 0, 8, 0, 8, 8, 4, 0, 0, 8);
        touches(x, "a corner on a corner", 0, 0, 4, 4, 8, 0, 8, 8, 4, 4, 0, 8);
        touches(x, "a spike", 0, 0, 4, 0, 4, 4, 4, 9, 4, 4, 0, 4);
        touches(x, "a spike back over a corner", 0, 0, 4, 0, 4, 4, 9, 4, 2, 4);
        touches(x, "sides on one line that overlap", 0, 0, 6, 0, 6, 2, 4, 2, 4, 0, 2, 0, 2, 4);
        numbers(x, 0, 0, 0, 2, 0, 4, 0, 4, 4);
        Due.fine(x, "a corner in a straight line is fine", x.plate(0, 4), 0);
        numbers(x, 0, 0, 0, 6, 0, 6, 4, 5, 4, 5, 1, 1, 1, 1, 4, 0, 4);
        Due.fine(x, "8 corners, hollow", x.plate(0, 8), 1);
        Due.fine(x, "its weight", x.part(1, 1), 24);
        numbers(x, 0, 0, 0, 4, 0, 4, 1, 6, 1, 6, 0, 9, 0, 9, 5, 0, 5);
        Due.fine(x, "sides on one line that stay apart", x.plate(0, 8), 2);
    }

    private static void touches(MobileMaker x, String what, long... row) {
        int corners = row.length / 2;
        for (int first = 0; first < corners; first++) {
            long[] turned = new long[row.length];
            long[] back = new long[row.length];
            for (int i = 0; i < row.length; i++) {
                turned[i] = row[(i + 2 * first) % row.length];
            }
            for (int i = 0; i < corners; i++) {
                back[2 * i] = turned[2 * (corners - 1 - i)];
                back[2 * i + 1] = turned[2 * (corners - 1 - i) + 1];
            }
            numbers(x, 0, turned);
            Due.none(x, what, x.plate(0, corners), 12);
            numbers(x, 0, back);
            Due.none(x, what + " back", x.plate(0, corners), 12);
        }
    }

    private static void tooMany() {
        MobileMaker x = new MobileMaker();
        for (int i = 0; i < 60; i++) {
            Due.fine(x, "one more", x.weight(i + 1), i);
        }
        numbers(x, 0, 0, 0, 4, 0, 0, 4);
        Due.none(x, "weight 61", x.weight(1), 10);
        Due.none(x, "weight 61 that can't be", x.weight(0), 7);
        Due.none(x, "load 61", x.load(0, 2), 10);
        Due.none(x, "load 61 that can't be", x.load(0, 0), 7);
        Due.none(x, "rod 61", x.rod(2, 0, false), 10);
        Due.none(x, "rod 61 that can't be", x.rod(0, 0, false), 7);
        Due.none(x, "plate 61", x.plate(0, 3), 10);
        x.write(0, 2, 0);
        Due.none(x, "plate 61 that touches itself", x.plate(0, 3), 12);
        Due.none(x, "there is no part 60", x.part(60, 0), 2);
        Due.fine(x, "there is a part 59", x.part(59, 1), 60);
    }

    /** Rod 0 bears rod 1 (left, by 5), which bears weight 2 of 6 (right, by 7); rod 0 bears plate 3 (right, by 9). */
    private static MobileMaker small() {
        MobileMaker x = new MobileMaker();
        x.rod(10, 3, false);
        x.rod(8, 0, false);
        x.weight(6);
        numbers(x, 0, 0, 0, 4, 0, 0, 2);
        x.plate(0, 3);
        Due.done(x, "hang", x.hang(2, 1, 1, 7));
        Due.done(x, "hang", x.hang(1, 0, 0, 5));
        Due.done(x, "hang", x.hang(3, 0, 1, 9));
        return x;
    }

    private static void part() {
        MobileMaker x = small();
        int[][] want = {{2, 30, -1, -1, 0, 0, 0}, {2, 0, 0, 0, 5, 5, 0}, {1, 6, 1, 1, 7, 12, 0}, {4, 8, 0, 1, 9, 9, 0}};
        for (int p = 0; p < want.length; p++) {
            for (int what = 0; what < 7; what++) {
                Due.fine(x, "part(" + p + ", " + what + ")", x.part(p, what), want[p][what]);
            }
        }
        Due.none(x, "no part", x.part(4, 7), 2);
        Due.none(x, "no part", x.part(-1, 0), 2);
        Due.none(x, "what", x.part(0, 7), 7);
        Due.none(x, "what", x.part(0, -1), 7);
        Due.fine(x, "left", x.rodAt(0, 4), 1);
        Due.fine(x, "right", x.rodAt(0, 5), 3);
        Due.fine(x, "free", x.rodAt(1, 4), -1);
        Due.fine(x, "right", x.rodAt(1, 5), 2);
        x.take(1);
        Due.fine(x, "a height in its own mobile", x.part(2, 5), 7);
        Due.fine(x, "its top", x.part(2, 6), 1);
    }

    private static void middle() {
        MobileMaker x = new MobileMaker();
        x.weight(1);
        x.rod(2, 0, false);
        middleIs(x, new long[] {0, 0, 4, 0, 4, 2, 0, 2}, 2, 1, 1, 1);
        middleIs(x, new long[] {0, 2, 4, 2, 4, 0, 0, 0}, 2, 1, 1, 1);
        middleIs(x, new long[] {0, 0, 4, 0, 4, -2}, 8, 3, -2, 3);
        middleIs(x, new long[] {-1, -1, 1, -1, 1, 1, -1, 1}, 0, 1, 0, 1);
        middleIs(x, new long[] {0, 0, 6, 0, 6, 2, 2, 2, 2, 6, 0, 6}, 11, 5, 11, 5);
        middleIs(x, new long[] {-7, -5, -6, -5, -7, -3}, -20, 3, -13, 3);
        middleIs(x, new long[] {-1000, -1000, 1000, -1000, 1000, 999, -1000, 1000}, -1000, 11997, -2999, 11997);
        Due.none(x, "no part", x.middle(99, 9), 2);
        Due.none(x, "a weight", x.middle(0, 9), 5);
        Due.none(x, "a rod", x.middle(1, 0), 5);
        Due.none(x, "what", x.middle(2, 4), 7);
        Due.none(x, "what", x.middle(2, -1), 7);
    }

    private static void middleIs(MobileMaker x, long[] row, long... want) {
        numbers(x, 0, row);
        int plate = x.plate(0, row.length / 2);
        for (int what = 0; what < 4; what++) {
            Due.fine(x, "middle(" + plate + ", " + what + ")", x.middle(plate, what), want[what]);
        }
    }

    private static void hang() {
        MobileMaker x = small();
        int shortRod = x.rod(4, 0, true);
        int w = x.weight(1);
        int free = x.rod(4, 0, false);
        Due.refused(x, "no part", x.hang(99, 0, 0, 1), 2);
        Due.refused(x, "on no part", x.hang(w, 99, 9, 0), 2);
        Due.refused(x, "on a weight", x.hang(w, 2, 9, 0), 5);
        Due.refused(x, "on a plate", x.hang(w, 3, 0, 1), 5);
        Due.refused(x, "a rod on a short", x.hang(free, shortRod, 9, 0), 5);
        Due.refused(x, "a short on itself", x.hang(shortRod, shortRod, 0, 1), 5);
        Due.refused(x, "end 2", x.hang(w, free, 2, 1), 7);
        Due.refused(x, "end -1", x.hang(w, free, -1, 1), 7);
        Due.refused(x, "thread 0", x.hang(w, free, 0, 0), 7);
        Due.refused(x, "thread 1001", x.hang(w, free, 0, 1001), 7);
        Due.refused(x, "on itself", x.hang(free, free, 0, 1), 7);
        Due.refused(x, "below itself", x.hang(0, 1, 0, 1), 7);
        Due.refused(x, "below itself, no free end", x.hang(0, 1, 1, 1), 7);
        Due.refused(x, "it hangs", x.hang(2, free, 0, 1), 8);
        Due.refused(x, "it hangs there", x.hang(1, 0, 0, 1), 8);
        Due.refused(x, "the end is not free", x.hang(w, 1, 1, 1), 8);
        Due.fine(x, "nothing has changed", x.part(w, 2), -1);
        Due.done(x, "a short on a rod", x.hang(shortRod, free, 0, 1000));
        Due.done(x, "a weight on a short", x.hang(w, shortRod, 1, 1));
        Due.done(x, "a rod on a rod", x.hang(free, 1, 0, 2));
        Due.fine(x, "height", x.part(w, 5), 1008);
        numbers(x, 0, 0, 0, 4, 0, 0, 2);
        Due.done(x, "a plate on a short", x.hang(x.plate(0, 3), shortRod, 0, 3));
    }

    private static void takeAndThread() {
        MobileMaker x = small();
        Due.refused(x, "take no part", x.take(4), 2);
        Due.refused(x, "take a top", x.take(0), 8);
        Due.refused(x, "thread of no part", x.thread(-1, 0), 2);
        Due.refused(x, "thread of a top", x.thread(0, 0), 8);
        Due.refused(x, "thread 0", x.thread(1, 0), 7);
        Due.refused(x, "thread 1001", x.thread(1, 1001), 7);
        Due.fine(x, "as before", x.part(1, 4), 5);
        Due.done(x, "thread 1000", x.thread(1, 1000));
        Due.fine(x, "its thread", x.part(1, 4), 1000);
        Due.fine(x, "height below it", x.part(2, 5), 1007);
        Due.done(x, "take", x.take(1));
        Due.fine(x, "its thread", x.part(1, 4), 0);
        Due.fine(x, "on nothing", x.part(1, 2), -1);
        Due.fine(x, "at no end", x.part(1, 3), -1);
        Due.fine(x, "a top", x.part(1, 6), 1);
        Due.fine(x, "the end is free", x.rodAt(0, 4), -1);
        Due.fine(x, "the other is not", x.rodAt(0, 5), 3);
        Due.refused(x, "take it twice", x.take(1), 8);
        Due.done(x, "hang it again", x.hang(1, 0, 0, 6));
        Due.fine(x, "its thread", x.part(1, 4), 6);
    }

    private static void tied() {
        MobileMaker x = small();
        Due.refused(x, "no part", x.tied(4, 0, 0), 2);
        Due.refused(x, "a weight", x.tied(2, 0, 0), 5);
        Due.refused(x, "p 0", x.tied(0, 0, 2), 7);
        Due.refused(x, "p q", x.tied(0, 2, 2), 7);
        Due.refused(x, "q 1", x.tied(0, 0, 1), 7);
        Due.refused(x, "q 1000001", x.tied(0, 1, 1000001), 7);
        Due.refused(x, "below 0", x.tied(0, -2, -1), 7);
        Due.fine(x, "p", x.rodAt(0, 2), 1);
        Due.done(x, "most", x.tied(0, 999999, 1000000));
        Due.fine(x, "p", x.rodAt(0, 2), 999999);
        Due.fine(x, "q", x.rodAt(0, 3), 1000000);
        Due.done(x, "as told", x.tied(0, 4, 8));
        Due.fine(x, "p as told", x.rodAt(0, 2), 4);
        Due.fine(x, "q as told", x.rodAt(0, 3), 8);
    }

    private static void swap() {
        MobileMaker x = small();
        Due.refused(x, "no part", x.swap(4), 2);
        Due.refused(x, "a plate", x.swap(3), 5);
        x.tied(0, 1, 5);
        Due.done(x, "swap", x.swap(0));
        Due.fine(x, "left", x.rodAt(0, 4), 3);
        Due.fine(x, "right", x.rodAt(0, 5), 1);
        Due.fine(x, "end", x.part(3, 3), 0);
        Due.fine(x, "end", x.part(1, 3), 1);
        Due.fine(x, "thread", x.part(3, 4), 9);
        Due.fine(x, "thread", x.part(1, 4), 5);
        Due.fine(x, "p", x.rodAt(0, 2), 1);
        Due.done(x, "swap with a free end", x.swap(1));
        Due.fine(x, "left", x.rodAt(1, 4), 2);
        Due.fine(x, "right", x.rodAt(1, 5), -1);
        Due.done(x, "take what was swapped", x.take(2));
        Due.fine(x, "left", x.rodAt(1, 4), -1);
        Due.done(x, "swap with nothing", x.swap(1));
    }

    private static void bears() {
        MobileMaker x = small();
        Due.none(x, "no part", x.bears(4), 2);
        Due.fine(x, "a weight", x.bears(2), 6);
        Due.fine(x, "a plate", x.bears(3), 8);
        Due.fine(x, "a rod of no heft", x.bears(1), 6);
        Due.fine(x, "the top", x.bears(0), 44);
        x.take(2);
        Due.fine(x, "the top without it", x.bears(0), 38);
        Due.fine(x, "the rod without it", x.bears(1), 0);
    }

    private static void tilts() {
        MobileMaker x = small();
        Due.none(x, "no part", x.tilts(4), 2);
        Due.none(x, "a weight", x.tilts(2), 5);
        Due.fine(x, "right sinks", x.tilts(1), 2);
        Due.fine(x, "right sinks", x.tilts(0), 2);
        x.swap(0);
        Due.fine(x, "left sinks", x.tilts(0), 1);
        x.tied(0, 46, 88);
        Due.fine(x, "left sinks more", x.tilts(0), 1);
        x.tied(0, 42, 88);
        Due.fine(x, "level", x.tilts(0), 0);
        x.tied(0, 477272, 1000000);
        Due.fine(x, "not quite", x.tilts(0), 2);
        x.tied(0, 477273, 1000000);
        Due.fine(x, "not quite", x.tilts(0), 1);
        int bare = x.rod(7, 0, true);
        x.tied(bare, 1, 3);
        Due.fine(x, "nothing is level anywhere", x.tilts(bare), 0);
        int heavy = x.rod(7, 1, true);
        Due.fine(x, "its own weight", x.tilts(heavy), 0);
        x.tied(heavy, 1, 3);
        Due.fine(x, "its own weight", x.tilts(heavy), 2);
    }

    private static void wrong() {
        MobileMaker x = small();
        Due.none(x, "no part", x.wrong(4), 2);
        Due.none(x, "it hangs", x.wrong(1), 8);
        Due.fine(x, "both", x.wrong(0), 2);
        x.take(2);
        Due.fine(x, "the top", x.wrong(0), 1);
        Due.fine(x, "a weight", x.wrong(2), 0);
        x.take(1);
        Due.fine(x, "a rod apart", x.wrong(1), 0);
    }

    private static void tie() {
        MobileMaker x = small();
        Due.none(x, "no part", x.tie(4, 9), 2);
        Due.none(x, "a weight", x.tie(2, 9), 5);
        Due.none(x, "what", x.tie(1, 2), 7);
        Due.none(x, "what", x.tie(0, -1), 7);
        Due.none(x, "at its end", x.tie(1, 0), 11);
        Due.fine(x, "p", x.tie(0, 0), 23);
        Due.fine(x, "q", x.tie(0, 1), 44);
        Due.fine(x, "it changes nothing", x.rodAt(0, 3), 2);
        x.swap(1);
        Due.none(x, "at its other end", x.tie(1, 1), 11);
        x.take(2);
        Due.none(x, "nothing at all", x.tie(1, 0), 11);
        int heavy = x.rod(9, 1000, false);
        Due.fine(x, "its own weight", x.tie(heavy, 0), 1);
        Due.fine(x, "its own weight", x.tie(heavy, 1), 2);
    }

    private static void all() {
        MobileMaker x = small();
        Due.none(x, "no part", x.all(4), 2);
        Due.none(x, "it hangs", x.all(1), 8);
        Due.none(x, "one is nowhere level", x.all(0), 11);
        Due.fine(x, "none is tied", x.rodAt(0, 3), 2);
        x.hang(x.weight(3), 1, 0, 1);
        Due.fine(x, "both", x.all(0), 2);
        Due.fine(x, "p", x.rodAt(1, 2), 2);
        Due.fine(x, "q", x.rodAt(1, 3), 3);
        Due.fine(x, "p", x.rodAt(0, 2), 23);
        Due.fine(x, "q", x.rodAt(0, 3), 47);
        Due.fine(x, "none is wrong", x.wrong(0), 0);
        int w = x.weight(5);
        Due.fine(x, "a weight has no rods", x.all(w), 0);
        fractionBeyondTold();
    }

    /** A rod that is level at a fraction whose lower number no call of tied() could tell. */
    private static void fractionBeyondTold() {
        MobileMaker x = new MobileMaker();
        int rod = x.rod(1000, 1000, false);
        x.hang(x.weight(999999), rod, 0, 1);
        numbers(x, 0, -1000, -1000, 1000, -1000, 1000, 999, -1000, 1000);
        x.hang(x.plate(0, 4), rod, 1, 1);
        Due.fine(x, "all", x.all(rod), 1);
        Due.fine(x, "p", x.rodAt(rod, 2), 8498000);
        Due.fine(x, "q", x.rodAt(rod, 3), 9997999);
        Due.fine(x, "level", x.tilts(rod), 0);
    }
}
