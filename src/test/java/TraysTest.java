/** Promises 1 to 6: a new object, status, tray, write, read, pour. */
public final class TraysTest {
    public static void main(String[] args) {
        newObject();
        tray();
        writeAndRead();
        pour();
        Due.end();
    }

    private static void newObject() {
        MobileMaker x = new MobileMaker();
        Due.is("status()", x.status(), 0);
        for (int t = 0; t < 6; t++) {
            Due.none(x, "read of a new tray", x.read(t, 0), 3);
        }
        Due.none(x, "part of a new object", x.part(0, 0), 2);
        Due.is("suspect", x.suspect(0), -1);
        Due.is("status() after suspect()", x.status(), 2);
        Due.noByte(x, 0);
        Due.is("status() after out()", x.status(), 2);
        Due.fine(x, "cut()", x.cut(), 0);
        Due.is("status() has no STATUS", x.status() + x.status(), 0);
    }

    private static void tray() {
        MobileMaker x = new MobileMaker();
        Due.refused(x, "tray -1", x.tray(-1, 0, 1), 1);
        Due.refused(x, "tray 6", x.tray(6, 0, 1), 1);
        Due.refused(x, "sort -1", x.tray(0, -1, 1), 1);
        Due.refused(x, "sort 3 ahead of 6", x.tray(0, 3, -1), 1);
        Due.refused(x, "below 0", x.tray(0, 0, -1), 6);
        Due.refused(x, "far below 0", x.tray(0, 0, Integer.MIN_VALUE), 6);
        Due.refused(x, "17", x.tray(0, 0, 17), 7);
        Due.refused(x, "very many", x.tray(0, 0, Integer.MAX_VALUE), 7);
        Due.none(x, "still missing", x.read(0, 0), 3);
        Due.done(x, "no numbers", x.tray(0, 0, 0));
        Due.none(x, "no place", x.read(0, 0), 4);
        Due.done(x, "16", x.tray(5, 2, 16));
        Due.done(x, "write", x.write(5, 15, 9));
        Due.refused(x, "not laid anew", x.tray(5, 2, 17), 7);
        Due.fine(x, "kept", x.read(5, 15), 9);
        Due.done(x, "laid anew", x.tray(5, 1, 16));
        Due.fine(x, "all 0", x.read(5, 15), 0);
        Due.done(x, "shorter", x.tray(5, 1, 3));
        Due.none(x, "gone", x.read(5, 3), 4);
    }

    private static void writeAndRead() {
        MobileMaker x = new MobileMaker();
        x.tray(0, 0, 2);
        x.tray(1, 1, 2);
        x.tray(2, 2, 2);
        long[] told = {0, -1, 32767, 32768, -32769, 65535, 2147483648L, -2147483649L, Long.MAX_VALUE, Long.MIN_VALUE};
        for (long v : told) {
            for (int t = 0; t < 3; t++) {
                Due.done(x, "write " + v, x.write(t, 1, v));
                Due.fine(x, "read " + v + " in " + t, x.read(t, 1), t == 0 ? (short) v : t == 1 ? (int) v : v);
                Due.fine(x, "the other place", x.read(t, 0), 0);
            }
        }
        Due.refused(x, "write to no tray", x.write(6, 0, 1), 1);
        Due.refused(x, "write to no tray", x.write(Integer.MIN_VALUE, 0, 1), 1);
        Due.refused(x, "write to a missing tray", x.write(3, -1, 1), 3);
        Due.refused(x, "write below", x.write(0, -1, 1), 4);
        Due.refused(x, "write beyond", x.write(0, 2, 1), 4);
        Due.none(x, "read no tray", x.read(-1, 0), 1);
        Due.none(x, "read a missing tray", x.read(3, 9), 3);
        Due.none(x, "read below", x.read(0, -1), 4);
        Due.none(x, "read beyond", x.read(0, 2), 4);
        x.write(0, 0, -1);
        Due.fine(x, "-1 is no NONE", x.read(0, 0), -1);
    }

    private static void pour() {
        MobileMaker x = new MobileMaker();
        Due.refused(x, "no tray", x.pour(6, 0, 0, 0, 0), 1);
        Due.refused(x, "to no tray", x.pour(0, 0, -1, 0, 0), 1);
        Due.refused(x, "missing", x.pour(0, 0, 1, 0, 0), 3);
        x.tray(0, 1, 6);
        Due.refused(x, "to missing", x.pour(0, 0, 1, 0, -1), 3);
        Due.refused(x, "from missing", x.pour(1, 0, 0, 0, -1), 3);
        x.tray(1, 2, 3);
        Due.refused(x, "unlike ahead of below 0", x.pour(0, 0, 1, 0, -1), 12);
        x.tray(1, 1, 3);
        Due.refused(x, "below 0 ahead of no place", x.pour(0, -1, 1, 9, -1), 6);
        Due.refused(x, "from below", x.pour(0, -1, 1, 0, 1), 4);
        Due.refused(x, "to below", x.pour(0, 0, 1, -1, 1), 4);
        Due.refused(x, "too many", x.pour(0, 0, 1, 0, 4), 4);
        Due.refused(x, "too many to have", x.pour(1, 1, 0, 0, 3), 4);
        Due.refused(x, "around", x.pour(0, 5, 1, 0, Integer.MAX_VALUE), 4);
        Due.refused(x, "around", x.pour(0, Integer.MAX_VALUE, 1, 0, 1), 4);
        Due.done(x, "none of them", x.pour(0, 6, 1, 3, 0));
        Due.refused(x, "none of them from beyond", x.pour(0, 7, 1, 0, 0), 4);
        for (int i = 0; i < 6; i++) {
            x.write(0, i, i + 1);
        }
        Due.done(x, "to another", x.pour(0, 2, 1, 1, 2));
        row(x, 1, 0, 3, 4);
        Due.done(x, "onto itself, on", x.pour(0, 0, 0, 2, 4));
        row(x, 0, 1, 2, 1, 2, 3, 4);
        Due.done(x, "onto itself, back", x.pour(0, 1, 0, 0, 5));
        row(x, 0, 2, 1, 2, 3, 4, 4);
    }

    private static void row(MobileMaker x, int tray, long... want) {
        for (int i = 0; i < want.length; i++) {
            Due.fine(x, "place " + i, x.read(tray, i), want[i]);
        }
    }
}
