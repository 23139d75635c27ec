/** The boundary cases of promises 1 to 6, a method for each promise. */
public final class EdgesOfTraysTest {
    public static void main(String[] args) {
        promise1();
        promise2();
        promise3();
        promise3Order();
        promise4();
        promise4Cut();
        promise5();
        promise6Places();
        promise6Order();
        promise6AsTheyWere();
        Due.end();
    }

    /** No TRAYS, no PARTS; STATUS 0. */
    private static void promise1() {
        Run other = new Run(1).tells(0, "status()").with("tray(0, 0, 1)", "write(0, 0, 7)", "weight(5)", "show(0)");
        // A new one, whatever another one holds.
        Run x = new Run(1).tells(0, "status()");
        for (int t = 0; t < 6; t++) {
            x.refuses(3, "read(" + t + ", 0)", "write(" + t + ", 0, 1)", "load(" + t + ", 0)");
        }
        x.refuses(2, "part(0, 0)", "bears(0)", "take(0)", "show(0)");
        x.tells(-1, "suspect(0)").noBytes("0");
        x.gives(0, "cut()");
        x.gives(0, "weight(1)").gives(1, "rod(2, 0, false)");
        // And the other one keeps what it holds.
        other.gives(7, "read(0, 0)").gives(5, "part(0, 1)").tells('5', "out(0)").refuses(2, "part(1, 0)");
    }

    /** The STATUS of the latest call that has one: status(), suspect() and out() have none. */
    private static void promise2() {
        Run x = new Run(2).with("rod(2, 0, false)", "weight(1)", "show(1)");
        x.tells(0, "status()").tells(0, "status()");
        x.refuses(2, "part(9, 0)");
        x.tells(2, "status()").tells(2, "status()");
        x.tells(-1, "suspect(0)").tells(2, "status()");
        x.tells('1', "out(0)").tells(2, "status()");
        x.noBytes("1", "-1").tells(2, "status()");
        x.gives(0, "cut()").tells(0, "status()");
        x.refuses(1, "read(6, 0)").refuses(7, "weight(0)").tells(7, "status()");
        x.gives(1, "bears(1)").tells(0, "status()");
        // NONE as an answer is no refusal.
        x.gives(-1, "part(1, 2)").tells(0, "status()");
        x.gives(-1, "rodAt(0, 4)").tells(0, "status()");
        // One that is found keeps STATUS too.
        x.with("fewest(0, 0)").refuses(3, "read(0, 0)").tells(-1, "suspect(0)").tells(3, "status()");
    }

    /** A TRAY is a row of so many numbers (at most 16; 7), all 0 (1; 6). */
    private static void promise3() {
        Run x = new Run(3);
        x.refuses(1, "tray(-1, 0, 1)", "tray(6, 0, 1)", "tray(min, 0, 1)", "tray(max, 0, 1)");
        x.refuses(1, "tray(0, -1, 1)", "tray(0, 3, 1)", "tray(0, min, 1)", "tray(0, max, 1)");
        x.refuses(6, "tray(0, 0, -1)", "tray(5, 2, min)");
        x.refuses(7, "tray(0, 0, 17)", "tray(5, 2, max)");
        x.does("tray(0, 0, 0)").refuses(4, "read(0, 0)");
        x.does("tray(5, 2, 16)").gives(0, "read(5, 15)").refuses(4, "read(5, 16)");
        x.does("tray(1, 1, 1)").gives(0, "read(1, 0)").refuses(4, "read(1, 1)");
        x.does("write(5, 15, 9)", "write(5, 0, -1)");
        // Refused: the row, its length and its sort stay.
        x.refuses(7, "tray(5, 1, 17)").refuses(6, "tray(5, 1, -1)").refuses(1, "tray(5, 3, 4)");
        x.gives(9, "read(5, 15)");
        // Laid anew, as long as before, shorter, longer: all 0.
        x.does("tray(5, 2, 16)").gives(0, "read(5, 15)").gives(0, "read(5, 0)");
        x.does("write(5, 1, 7)", "write(5, 15, 7)", "tray(5, 0, 2)").gives(0, "read(5, 1)").refuses(4, "read(5, 2)");
        x.does("tray(5, 0, 16)").gives(0, "read(5, 1)").gives(0, "read(5, 15)");
        x.does("write(5, 0, 32768)").gives(-32768, "read(5, 0)");
        x.does("tray(5, 0, 0)").refuses(4, "read(5, 0)", "write(5, 0, 1)");
        for (int t = 0; t < 6; t++) {
            for (int sort = 0; sort < 3; sort++) {
                x.does("tray(" + t + ", " + sort + ", 3)");
            }
        }
    }

    private static void promise3Order() {
        Run x = new Run(3);
        x.refuses(1, "tray(6, 0, -1)", "tray(6, 0, 17)", "tray(-1, 3, -1)", "tray(0, 3, -1)", "tray(0, -1, 17)");
        x.refuses(3, "read(0, 0)");
    }

    /** A number comes to a place of a TRAY (1; 3; 4). */
    private static void promise4() {
        Run x = new Run(4).with("tray(0, 2, 3)", "tray(5, 2, 16)", "tray(4, 0, 0)");
        x.refuses(1, "write(-1, 0, 5)", "write(6, 0, 5)", "write(min, 0, 5)", "write(max, 0, 5)");
        x.refuses(3, "write(1, 0, 5)", "write(3, 0, 5)");
        x.refuses(4, "write(0, -1, 5)", "write(0, 3, 5)", "write(0, min, 5)", "write(0, max, 5)");
        x.refuses(4, "write(5, 16, 5)", "write(4, 0, 5)");
        // The order: 1, 3, 4.
        x.refuses(1, "write(6, -1, 5)", "write(-1, 16, 5)").refuses(3, "write(1, -1, 5)", "write(1, 16, 5)");
        x.does("write(0, 0, 5)", "write(0, 2, 6)", "write(5, 15, 7)", "write(5, 0, 8)");
        x.eachGives("read(0, #)", 5, 0, 6).gives(7, "read(5, 15)").gives(8, "read(5, 0)").gives(0, "read(5, 1)");
        x.refuses(4, "write(0, 3, 9)", "write(0, -1, 9)");
        x.does("write(0, 2, 4)").eachGives("read(0, #)", 5, 0, 4);
    }

    /** What is written is cut to 16, 32 or 64 bits, with sign. */
    private static void promise4Cut() {
        long[] edges = {-1, 32767, 32768, 65535, 65536, -32768, -32769, 98304, Integer.MAX_VALUE, 1L << 31,
            (1L << 32) - 1, 1L << 32, Integer.MIN_VALUE, Integer.MIN_VALUE - 1L, Long.MAX_VALUE, Long.MIN_VALUE};
        long[] of16 = {-1, 32767, -32768, -1, 0, -32768, 32767, -32768, -1, 0, -1, 0, 0, -1, -1, 0};
        long[] of32 = {-1, 32767, 32768, 65535, 65536, -32768, -32769, 98304, Integer.MAX_VALUE, Integer.MIN_VALUE,
            -1, 0, Integer.MIN_VALUE, Integer.MAX_VALUE, -1, 0};
        Run x = new Run(4).with("tray(0, 0, 16)", "tray(1, 1, 16)", "tray(2, 2, 16)");
        for (int t = 0; t < 3; t++) {
            for (int i = 0; i < edges.length; i++) {
                x.does("write(" + t + ", " + i + ", " + edges[i] + ")");
            }
        }
        x.eachGives("read(0, #)", of16).eachGives("read(1, #)", of32).eachGives("read(2, #)", edges);
    }

    /** The number in a place of a TRAY; STATUS tells NONE from -1 (1; 3; 4). */
    private static void promise5() {
        Run x = new Run(5).with("tray(0, 0, 2)", "tray(5, 2, 16)", "tray(4, 1, 0)", "write(0, 1, -1)");
        x.refuses(1, "read(-1, 0)", "read(6, 0)", "read(min, 0)", "read(max, 0)");
        x.refuses(3, "read(1, 0)", "read(3, 0)");
        x.refuses(4, "read(0, -1)", "read(0, 2)", "read(0, min)", "read(0, max)", "read(5, 16)", "read(4, 0)");
        x.refuses(1, "read(6, -1)", "read(-1, 16)").refuses(3, "read(1, -1)", "read(1, 16)");
        x.gives(0, "read(0, 0)").gives(-1, "read(0, 1)").gives(0, "read(5, 15)");
        x.with("write(5, 15, -1)").gives(-1, "read(5, 15)").refuses(4, "read(5, 16)");
    }

    /** So many numbers from place i on come to place j on: 4 where a TRAY has not so many there. */
    private static void promise6Places() {
        Run x = new Run(6).row(0, 1, 2, 3, 4, 5).row(1, 7, 8, 9).with("tray(2, 2, 0)");
        x.refuses(4, "pour(0, -1, 1, 0, 1)", "pour(0, 0, 1, -1, 1)", "pour(0, -1, 1, -1, 2)");
        x.refuses(4, "pour(0, 5, 1, 0, 1)", "pour(0, 4, 1, 0, 2)", "pour(0, 0, 1, 3, 1)", "pour(0, 0, 1, 2, 2)");
        x.refuses(4, "pour(0, 0, 1, 0, 4)", "pour(1, 0, 0, 0, 4)", "pour(0, 0, 2, 0, 1)", "pour(2, 0, 0, 0, 1)");
        // Sums that would wrap around.
        x.refuses(4, "pour(0, 1, 1, 0, max)", "pour(0, max, 1, 0, 1)", "pour(0, 0, 1, max, 1)");
        x.refuses(4, "pour(0, max, 1, max, max)", "pour(0, min, 1, 0, 1)", "pour(0, 0, 1, min, 1)");
        x.refuses(4, "pour(0, min, 1, min, max)", "pour(0, 0, 0, 0, 6)", "pour(0, 1, 0, 1, 5)");
        // No numbers: from any place up to the end, and no farther.
        x.does("pour(0, 0, 1, 0, 0)", "pour(0, 5, 1, 3, 0)", "pour(2, 0, 2, 0, 0)", "pour(0, 0, 2, 0, 0)");
        x.refuses(4, "pour(0, 6, 1, 0, 0)", "pour(0, 0, 1, 4, 0)", "pour(0, -1, 1, 0, 0)", "pour(0, 0, 1, -1, 0)");
        x.eachGives("read(0, #)", 1, 2, 3, 4, 5).eachGives("read(1, #)", 7, 8, 9);
        x.does("pour(0, 4, 1, 2, 1)").eachGives("read(1, #)", 7, 8, 5).eachGives("read(0, #)", 1, 2, 3, 4, 5);
        x.does("pour(0, 2, 1, 0, 3)").eachGives("read(1, #)", 3, 4, 5);
        x.does("pour(1, 0, 0, 2, 3)").eachGives("read(0, #)", 1, 2, 3, 4, 5);
        x.does("pour(1, 2, 0, 0, 1)").eachGives("read(0, #)", 5, 2, 3, 4, 5);
    }

    /** 1, 3 (either), 12, 6, 4, asked in this order. */
    private static void promise6Order() {
        Run x = new Run(6).with("tray(0, 1, 2)", "tray(1, 1, 2)", "tray(2, 2, 2)", "tray(3, 0, 2)");
        x.refuses(1, "pour(6, 0, 0, 0, 1)", "pour(0, 0, 6, 0, 1)", "pour(-1, 0, 0, 0, 1)", "pour(0, 0, -1, 0, 1)");
        x.refuses(1, "pour(max, 0, 0, 0, 1)", "pour(0, 0, min, 0, 1)", "pour(6, 0, -1, 0, 1)");
        x.refuses(1, "pour(6, 9, 5, 9, -1)", "pour(5, 9, 6, 9, -1)", "pour(2, 9, 6, 9, -1)");
        x.refuses(3, "pour(0, 0, 5, 0, 1)", "pour(5, 0, 0, 0, 1)", "pour(4, 0, 5, 0, 1)", "pour(5, 0, 5, 0, 1)");
        x.refuses(3, "pour(0, 9, 5, 9, -1)", "pour(5, 9, 0, 9, -1)", "pour(5, 0, 5, 0, 0)");
        x.refuses(12, "pour(0, 0, 2, 0, 1)", "pour(2, 0, 0, 0, 1)", "pour(0, 0, 3, 0, 0)", "pour(3, 0, 2, 0, 1)");
        x.refuses(12, "pour(0, 0, 2, 0, -1)", "pour(0, 9, 2, 9, 1)", "pour(0, 9, 2, 9, -1)");
        x.refuses(6, "pour(0, 0, 1, 0, -1)", "pour(0, 0, 1, 0, min)", "pour(0, 9, 1, -1, -1)", "pour(0, 1, 0, 2, -1)");
        x.refuses(4, "pour(0, 0, 1, 1, 2)");
        x.does("pour(0, 0, 1, 0, 2)", "pour(0, 0, 1, 0, 0)");
    }

    /** Onto the same TRAY, on, back and in its own place: as they were. */
    private static void promise6AsTheyWere() {
        Run x = new Run(6).row(0, 1, 2, 3, 4, 5, 6);
        x.does("pour(0, 0, 0, 1, 5)").eachGives("read(0, #)", 1, 1, 2, 3, 4, 5);
        x.does("pour(0, 1, 0, 0, 5)").eachGives("read(0, #)", 1, 2, 3, 4, 5, 5);
        x.does("pour(0, 0, 0, 0, 6)").eachGives("read(0, #)", 1, 2, 3, 4, 5, 5);
        x.does("pour(0, 0, 0, 3, 3)").eachGives("read(0, #)", 1, 2, 3, 1, 2, 3);
        Run full = new Run(6).row(0, 1, 2, 3, 4, 5, 6, 7, 8, 9, 10, 11, 12, 13, 14, 15, 16).with("tray(1, 2, 16)");
        full.refuses(4, "pour(0, 0, 1, 1, 16)", "pour(0, 1, 1, 0, 16)", "pour(0, 0, 1, 0, 17)");
        full.does("pour(0, 0, 1, 0, 16)").gives(1, "read(1, 0)").gives(16, "read(1, 15)").gives(16, "read(0, 15)");
        full.does("pour(0, 0, 0, 15, 1)").gives(1, "read(0, 15)").gives(15, "read(0, 14)");
    }
}
