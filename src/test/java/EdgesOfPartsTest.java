/** The boundary cases of promises 7 to 13, a method for each promise. */
public final class EdgesOfPartsTest {
    private static final int TOUCHES = -12;

    public static void main(String[] args) {
        promise7();
        promise8();
        promise9();
        promise10Order();
        promise10Numbers();
        promise10Neighbours();
        promise10OtherSides();
        sixtyParts();
        promise11();
        promise12();
        promise13();
        promise13Greatest();
        Due.end();
    }

    /** A WEIGHT more: from 1 to 1,000,000 (7; 10). */
    private static void promise7() {
        Run x = new Run(7);
        x.refuses(7, "weight(0)", "weight(-1)", "weight(1000001)", "weight(min)", "weight(max)");
        x.gives(0, "weight(1)").gives(1, "weight(1000000)");
        x.gives(1, "part(0, 1)").gives(1000000, "part(1, 1)").gives(1, "part(1, 0)");
        x.refuses(7, "weight(0)", "weight(1000001)");
        x.gives(2, "weight(2)");
    }

    /** The same with the number in a place of a TRAY (1; 3; 4; 7; 10). */
    private static void promise8() {
        Run x = new Run(8).row(0, 1, 1000000, 0, 1000001, -1, (1L << 32) + 1, Long.MAX_VALUE, Long.MIN_VALUE + 1);
        x.with("tray(5, 0, 0)", "tray(4, 0, 1)", "write(4, 0, 65537)");
        x.refuses(1, "load(-1, 0)", "load(6, 0)", "load(max, 0)", "load(min, 0)", "load(6, -1)");
        x.refuses(3, "load(1, 0)", "load(1, -1)", "load(3, 16)");
        x.refuses(4, "load(0, -1)", "load(0, 8)", "load(0, min)", "load(0, max)", "load(5, 0)");
        x.refuses(7, "load(0, 2)", "load(0, 3)", "load(0, 4)", "load(0, 5)", "load(0, 6)", "load(0, 7)");
        x.gives(0, "load(0, 0)").gives(1, "load(0, 1)").gives(2, "load(4, 0)");
        x.gives(1, "part(0, 1)").gives(1000000, "part(1, 1)").gives(1, "part(2, 1)");
        x.gives(1000000, "read(0, 1)");
        // The WEIGHT stays as it was made, whatever comes to the TRAY.
        x.with("write(0, 0, 9)").gives(1, "part(0, 1)");
    }

    /** A ROD, or a SHORT: a LENGTH from 2 to 1,000, a HEFT from 0 to 1,000 (7; 10). */
    private static void promise9() {
        Run x = new Run(9);
        x.refuses(7, "rod(1, 0, false)", "rod(1001, 0, false)", "rod(0, 0, false)", "rod(-2, 0, true)");
        x.refuses(7, "rod(min, 0, false)", "rod(max, 0, true)");
        x.refuses(7, "rod(2, -1, false)", "rod(2, 1001, true)", "rod(2, min, true)", "rod(1000, max, false)");
        x.gives(0, "rod(2, 0, false)").gives(1, "rod(1000, 1000, true)").gives(2, "rod(2, 1000, true)");
        x.gives(3, "rod(1000, 0, false)");
        x.gives(2, "part(0, 0)").gives(3, "part(1, 0)").gives(3, "part(2, 0)").gives(2, "part(3, 0)");
        x.gives(0, "part(0, 1)").gives(1000000, "part(1, 1)").gives(2000, "part(2, 1)").gives(0, "part(3, 1)");
        x.eachGives("rodAt(0, #)", 2, 0, 1, 2, -1, -1).eachGives("rodAt(1, #)", 1000, 1000, 1, 2, -1, -1);
    }

    /** 1; 3; 7: corners; 4; 7: a number beyond; 12; 10: asked in this order. */
    private static void promise10Order() {
        Run x = new Run(10).with("tray(0, 1, 5)", "tray(1, 1, 16)", "tray(2, 1, 0)", "write(0, 0, 1001)");
        x.refuses(1, "plate(-1, 3)", "plate(6, 3)", "plate(min, 3)", "plate(max, 3)", "plate(6, 2)", "plate(-1, 9)");
        x.refuses(3, "plate(5, 3)", "plate(5, 2)", "plate(5, 9)");
        x.refuses(7, "plate(1, 2)", "plate(1, 9)", "plate(1, 0)", "plate(1, -1)", "plate(1, min)", "plate(1, max)");
        // Corners that can't be are ahead of numbers that the TRAY has not; 1 << 30 corners would wrap around.
        x.refuses(7, "plate(0, 2)", "plate(0, 9)", "plate(2, 2)", "plate(1, 1073741824)", "plate(1, -1073741824)");
        // Numbers that the TRAY has not are ahead of one beyond.
        x.refuses(4, "plate(0, 3)", "plate(0, 8)", "plate(2, 3)");
        // A number beyond is ahead of a ring that touches itself: this one is all 0 but for it.
        x.refuses(12, "plate(1, 3)", "plate(1, 8)");
        x.with("write(1, 5, 1001)").refuses(7, "plate(1, 3)", "plate(1, 8)");
        x.with("write(1, 5, -1001)").refuses(7, "plate(1, 3)");
        x.with("write(1, 5, 1000)").refuses(12, "plate(1, 3)");
        x.with("write(1, 2, 1000)").gives(0, "plate(1, 3)").gives(1000000, "part(0, 1)");
    }

    /** Its corners are the first numbers of a TRAY: so many must be there, each from -1,000 to 1,000. */
    private static void promise10Numbers() {
        Run x = new Run(10).row(0, 0, 0, 4, 0, 0, 4).row(1, 0, 0, 4, 0, 0);
        x.gives(0, "plate(0, 3)").refuses(4, "plate(0, 4)", "plate(1, 3)");
        x.row(1, 0, 0, 4, 0, 4, 4, 0, 4).gives(1, "plate(1, 4)").refuses(4, "plate(1, 5)");
        // Those behind the corners are not looked at.
        x.row(1, 0, 0, 4, 0, 0, 4, 1001, Long.MIN_VALUE).gives(2, "plate(1, 3)").refuses(7, "plate(1, 4)");
        for (int i = 0; i < 6; i++) {
            for (long beyond : new long[] {1001, -1001, Long.MAX_VALUE, Long.MIN_VALUE, 1L << 32, 1L << 63 | 4}) {
                long[] row = {0, 0, 4, 0, 0, 4};
                row[i] = beyond;
                new Run(10).row(0, row).refuses(7, "plate(0, 3)");
            }
            for (int most = -1000; most <= 1000; most += 2000) {
                long[] row = {0, 0, 4, 0, 0, 4};
                row[i] = most;
                new Run(10).row(0, row).gives(0, "plate(0, 3)");
            }
        }
        x.row(3, -1000, -1000, 1000, -1000, 1000, 1000, -1000, 1000).gives(3, "plate(3, 4)");
        x.gives(8000000, "part(3, 1)");
        x.row(4, 0, 0, 2, 0, 3, 1, 3, 2, 2, 3, 0, 3, -1, 2, -1, 1).gives(4, "plate(4, 8)").gives(20, "part(4, 1)");
        // The PLATE stays as it was drawn.
        x.with("write(3, 0, 0)").gives(8000000, "part(3, 1)").gives(0, "middle(3, 0)");
    }

    /** Each ring from each of its corners on, both ways round, also with x and y changed, and with their signs. */
    private static void ring(int due, long... row) {
        int n = row.length / 2;
        for (int turn = 0; turn < 8 * n; turn++) {
            long[] turned = new long[2 * n];
            int step = turn % 2 == 0 ? 1 : -1;
            int x = turn / 2 % 2;
            int sign = turn / 4 % 2 == 0 ? 1 : -1;
            for (int i = 0; i < n; i++) {
                int corner = Math.floorMod(turn / 8 + step * i, n);
                turned[2 * i] = sign * row[2 * corner + x];
                turned[2 * i + 1] = sign * row[2 * corner + 1 - x];
            }
            drawn(due, turned);
        }
    }

    /** 12 if it touches itself, else its weight. */
    private static void drawn(int due, long[] row) {
        Run x = new Run(10).row(0, row);
        String plate = "plate(0, " + row.length / 2 + ")";
        if (due == TOUCHES) {
            x.refuses(12, plate);
        } else {
            x.gives(0, plate).gives(due, "part(0, 1)");
        }
    }

    /** Sides that are next to one another have their corner in common and no other point. */
    private static void promise10Neighbours() {
        ring(TOUCHES, 0, 0, 4, 0, 8, 0);
        ring(8, 0, 0, 4, 1, 8, 0);
        ring(1, 0, 0, 4, 1, 7, 2);
        ring(TOUCHES, -1000, -1000, 0, 0, 1000, 1000);
        ring(1000, -1000, -1000, 0, 0, 1000, 999);
        // Straight on is fine, by as little as can be too; right back is not.
        ring(16, 0, 0, 2, 0, 4, 0, 4, 4);
        ring(4, 0, 0, 1, 0, 2, 0, 2, 2);
        ring(TOUCHES, 0, 0, 1, 0, 0, 0, 2, 2);
        ring(TOUCHES, 0, 0, 4, 0, 2, 0, 4, 4);
        ring(24, 0, 0, 4, 0, 4, 2, 4, 3, 0, 3);
        ring(TOUCHES, 0, 0, 4, 0, 4, 4, 4, 2, 0, 2);
        ring(18, 0, 0, 4, 0, 4, 4, 3, 2, 0, 2);
        // Back just as far as the side came, and farther.
        ring(TOUCHES, 0, 0, 4, 0, 4, 4, 4, 0, 0, 2);
        ring(TOUCHES, 0, 0, 4, 0, 4, 4, 4, -1, 0, -1);
        // A corner twice, and all corners in one point.
        ring(TOUCHES, 0, 0, 4, 0, 4, 0, 0, 4);
        ring(TOUCHES, 0, 0, 0, 0, 4, 0);
        ring(TOUCHES, 3, 3, 3, 3, 3, 3);
        ring(TOUCHES, 3, 3, 3, 3, 3, 3, 3, 3);
    }

    /** Other sides have no point in common. */
    private static void promise10OtherSides() {
        // A corner above a side, on it, below it.
        ring(2 * 64 - 8 * 7, 0, 0, 8, 0, 8, 8, 4, 1, 0, 8);
        ring(TOUCHES, 0, 0, 8, 0, 8, 8, 4, 0, 0, 8);
        ring(TOUCHES, 0, 0, 8, 0, 8, 8, 4, -1, 0, 8);
        // A corner near a slanting side, as near as whole numbers come.
        ring(TOUCHES, 0, 0, 8, 4, 8, 9, 4, 2, 0, 9);
        ring(64, 0, 0, 8, 4, 8, 9, 4, 3, 0, 9);
        // A corner beside a corner, in it, beyond it.
        ring(72, 0, 0, 4, 3, 8, 0, 8, 8, 4, 4, 0, 8);
        ring(TOUCHES, 0, 0, 4, 4, 8, 0, 8, 8, 4, 4, 0, 8);
        ring(TOUCHES, 0, 0, 4, 5, 8, 0, 8, 8, 4, 4, 0, 8);
        // Sides on one line: apart, with an end in common, with more.
        ring(88, 0, 0, 4, 0, 4, 1, 5, 1, 5, 0, 9, 0, 9, 5, 0, 5);
        ring(TOUCHES, 0, 0, 4, 0, 3, 1, 5, 1, 4, 0, 9, 0, 9, 5, 0, 5);
        ring(TOUCHES, 0, 0, 4, 0, 3, 1, 5, 1, 3, 0, 9, 0, 9, 5, 0, 5);
        ring(87, 0, 0, 4, 0, 3, 1, 5, 1, 5, 0, 9, 0, 9, 5, 0, 5);
        // Crossing once, and the least and the greatest that cross.
        ring(TOUCHES, 0, 0, 1, 1, 1, 0, 0, 1);
        ring(TOUCHES, -1000, -1000, 1000, 1000, 1000, -1000, -1000, 1000);
        ring(2, 0, 0, 1, 0, 1, 1, 0, 1);
        // Sides that run side by side, one unit apart, and one on the other.
        ring(2 * (2000 + 1999), -1000, -1000, 1000, -1000, 1000, 1000, 999, 1000, 999, -999, -1000, -999);
        ring(TOUCHES, -1000, -1000, 1000, -1000, 1000, 1000, 1000, 999, 1000, -1000, -1000, -999);
    }

    /** PARTS, at most 60 (10), for each promise that makes one; what else is wrong with it is ahead of 10. */
    private static void sixtyParts() {
        String[] calls = {"weight(1)", "load(0, 2)", "rod(2, 0, false)", "plate(0, 3)"};
        for (int i = 0; i < calls.length; i++) {
            Run x = new Run(i + 7).row(0, 0, 0, 4, 0, 0, 4, 2, 0).row(1, 1001, 0, 4, 0, 0, 4);
            for (int n = 0; n < 59; n++) {
                x.with("weight(" + (n + 1) + ")");
            }
            x.refuses(2, "part(59, 0)");
            x.gives(59, calls[i]);
            x.refuses(10, calls[i]);
            x.refuses(2, "part(60, 0)");
            if (i == 0) {
                x.refuses(7, "weight(0)", "weight(1000001)").refuses(10, "weight(1000000)");
            } else if (i == 1) {
                x.refuses(1, "load(6, 0)").refuses(3, "load(2, 0)").refuses(4, "load(0, 8)").refuses(7, "load(0, 0)");
            } else if (i == 2) {
                x.refuses(7, "rod(1, 0, true)", "rod(2, -1, true)").refuses(10, "rod(1000, 1000, true)");
            } else {
                x.refuses(1, "plate(6, 3)").refuses(3, "plate(2, 3)").refuses(7, "plate(0, 2)", "plate(1, 3)");
                x.refuses(4, "plate(0, 5)").with("write(0, 4, 2)", "write(0, 5, 0)").refuses(12, "plate(0, 3)");
            }
            x.gives(59, "part(58, 1)");
        }
    }

    /** ROD 0 bears SHORT 1 left by 5, PLATE 3 right by 9; SHORT 1 bears WEIGHT 2 right by 7. WEIGHT 4 is alone. */
    private static Run small(int promise) {
        return new Run(promise).row(0, 0, 0, 4, 0, 0, 2).with("rod(10, 3, false)", "rod(8, 0, true)", "weight(6)",
            "plate(0, 3)", "weight(9)", "hang(2, 1, 1, 7)", "hang(1, 0, 0, 5)", "hang(3, 0, 1, 9)");
    }

    /** Of a PART, what 0 to 6 (2; 7). */
    private static void promise11() {
        Run x = small(11);
        x.refuses(2, "part(-1, 0)", "part(5, 0)", "part(min, 0)", "part(max, 0)", "part(59, 0)", "part(60, 0)");
        x.refuses(2, "part(-1, -1)", "part(5, 7)");
        for (int p = 0; p < 5; p++) {
            x.refuses(7, "part(" + p + ", -1)", "part(" + p + ", 7)");
        }
        x.refuses(7, "part(0, min)", "part(0, max)");
        x.eachGives("part(0, #)", 2, 30, -1, -1, 0, 0, 0).eachGives("part(1, #)", 3, 0, 0, 0, 5, 5, 0);
        x.eachGives("part(2, #)", 1, 6, 1, 1, 7, 12, 0).eachGives("part(3, #)", 4, 8, 0, 1, 9, 9, 0);
        x.eachGives("part(4, #)", 1, 9, -1, -1, 0, 0, 4);
        // Off its ROD: no ROD, no end, no thread, no HEIGHT, and its own TOP.
        x.with("take(1)").eachGives("part(1, #)", 3, 0, -1, -1, 0, 0, 1).eachGives("part(2, #)", 1, 6, 1, 1, 7, 7, 1);
    }

    /** Of a ROD, what 0 to 5 (2; 5; 7). */
    private static void promise12() {
        Run x = small(12);
        x.refuses(2, "rodAt(-1, 0)", "rodAt(5, 0)", "rodAt(min, 0)", "rodAt(max, 0)", "rodAt(5, 6)", "rodAt(-1, -1)");
        x.refuses(5, "rodAt(2, 0)", "rodAt(3, 0)", "rodAt(4, 0)", "rodAt(2, 6)", "rodAt(3, -1)");
        x.refuses(7, "rodAt(0, -1)", "rodAt(0, 6)", "rodAt(1, -1)", "rodAt(1, 6)", "rodAt(0, min)", "rodAt(0, max)");
        x.eachGives("rodAt(0, #)", 10, 3, 1, 2, 1, 3).eachGives("rodAt(1, #)", 8, 0, 1, 2, -1, 2);
        // p, q as told, or tied.
        x.with("tied(0, 6, 8)").eachGives("rodAt(0, #)", 10, 3, 6, 8, 1, 3);
        x.with("take(1)", "all(0)").eachGives("rodAt(0, #)", 10, 3, 23, 38, -1, 3);
    }

    /** The middle of area of a PLATE, what 0 to 3: the lower number above 0, without a common divisor (2; 5; 7). */
    private static void promise13() {
        Run x = small(13);
        x.refuses(2, "middle(-1, 0)", "middle(5, 0)", "middle(min, 0)", "middle(max, 0)", "middle(5, 4)");
        x.refuses(5, "middle(0, 0)", "middle(1, 0)", "middle(2, 0)", "middle(2, 4)", "middle(0, -1)");
        x.refuses(7, "middle(3, -1)", "middle(3, 4)", "middle(3, min)", "middle(3, max)");
        x.eachGives("middle(3, #)", 4, 3, 2, 3);
        // Both ways round, left of 0 and below it, in 0 itself, and -1, which is no NONE.
        x.row(0, 0, 0, 0, 2, 4, 0).with("plate(0, 3)").eachGives("middle(5, #)", 4, 3, 2, 3);
        x.row(0, 0, 0, -4, 0, 0, -2).with("plate(0, 3)").eachGives("middle(6, #)", -4, 3, -2, 3);
        x.row(0, 0, 0, 0, -2, -4, 0).with("plate(0, 3)").eachGives("middle(7, #)", -4, 3, -2, 3);
        x.row(0, -1, -2, 1, -2, 1, 2, -1, 2).with("plate(0, 4)").eachGives("middle(8, #)", 0, 1, 0, 1);
        x.row(0, -2, -2, 0, -2, 0, 0, -2, 0).with("plate(0, 4)").eachGives("middle(9, #)", -1, 1, -1, 1);
        x.row(0, 0, 0, 1, 0, 0, 1).with("plate(0, 3)").eachGives("middle(10, #)", 1, 3, 1, 3);
        x.row(0, 0, 0, 0, 1, 1, 0).with("plate(0, 3)").eachGives("middle(11, #)", 1, 3, 1, 3);
    }

    /** A triangle's middle is a third of its corners' sum; so great ones come near to the greatest sums. */
    private static void promise13Greatest() {
        Run x = new Run(13);
        x.row(0, 1000, 1000, 999, 1000, 1000, 999).with("plate(0, 3)").eachGives("middle(0, #)", 2999, 3, 2999, 3);
        x.row(0, -1000, 1000, 1000, 1000, -1000, -1000).with("plate(0, 3)");
        x.eachGives("middle(1, #)", -1000, 3, 1000, 3);
        x.row(0, -1000, -1000, -999, -1000, 1000, 1000).with("plate(0, 3)")
            .eachGives("middle(2, #)", -333, 1, -1000, 3);
        // Nearly the greatest ring: 2,000 wide, 2,000 high left and 1,999 high right.
        x.row(0, -1000, -1000, 1000, -1000, 1000, 999, -1000, 1000).with("plate(0, 4)");
        x.gives(7998000, "part(3, 1)").eachGives("middle(3, #)", -1000, 11997, -2999, 11997);
    }
}
