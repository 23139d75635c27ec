import java.math.BigInteger;

/** The boundary cases of promises 14 to 23, a method for each promise. */
public final class EdgesOfHangingTest {
    public static void main(String[] args) {
        promise14();
        promise14Order();
        promise14Below();
        promise15();
        promise16();
        promise17();
        promise18();
        promise19();
        promise20();
        promise20Heft();
        promise21();
        promise22();
        promise22BetweenItsEnds();
        promise23();
        greatest();
        Due.end();
    }

    /** ROD 0 bears ROD 1 left by 5, PLATE 3 right by 9; ROD 1 bears WEIGHT 2 right by 7. SHORT 4, WEIGHT 5, ROD 6. */
    private static Run small(int promise) {
        return new Run(promise).row(0, 0, 0, 4, 0, 0, 2).with("rod(10, 3, false)", "rod(8, 0, false)", "weight(6)",
            "plate(0, 3)", "hang(2, 1, 1, 7)", "hang(1, 0, 0, 5)", "hang(3, 0, 1, 9)", "rod(4, 0, true)", "weight(1)",
            "rod(4, 0, false)");
    }

    /** A PART hangs at an end of a ROD by a thread (2; 5: no ROD, or a SHORT and a ROD; 7: end, thread; 8). */
    private static void promise14() {
        Run x = small(14);
        x.refuses(2, "hang(-1, 6, 0, 1)", "hang(7, 6, 0, 1)", "hang(min, 6, 0, 1)", "hang(max, 6, 0, 1)");
        x.refuses(2, "hang(5, -1, 0, 1)", "hang(5, 7, 0, 1)", "hang(5, min, 0, 1)", "hang(5, max, 0, 1)");
        x.refuses(5, "hang(5, 2, 0, 1)", "hang(5, 3, 0, 1)", "hang(6, 4, 0, 1)", "hang(0, 4, 0, 1)",
            "hang(4, 4, 1, 1)");
        x.refuses(7, "hang(5, 6, -1, 1)", "hang(5, 6, 2, 1)", "hang(5, 6, min, 1)", "hang(5, 6, max, 1)");
        x.refuses(7, "hang(5, 6, 0, 0)", "hang(5, 6, 0, -1)", "hang(5, 6, 1, 1001)", "hang(5, 6, 0, min)");
        x.refuses(7, "hang(5, 6, 1, max)");
        // It hangs; the end is not FREE; both.
        x.refuses(8, "hang(2, 6, 0, 1)", "hang(3, 4, 0, 1)", "hang(5, 0, 0, 1)", "hang(5, 0, 1, 1)",
            "hang(5, 1, 1, 1)");
        x.refuses(8, "hang(2, 1, 1, 7)", "hang(3, 0, 0, 1)", "hang(2, 1, 0, 1)");
        x.does("hang(5, 4, 1, 1000)", "hang(4, 6, 0, 1)", "hang(6, 1, 0, 1)");
        x.eachGives("part(5, #)", 1, 1, 4, 1, 1000, 1007, 0).eachGives("part(4, #)", 3, 0, 6, 0, 1, 7, 0);
        x.gives(5, "rodAt(4, 5)").gives(-1, "rodAt(4, 4)").gives(4, "rodAt(6, 4)").gives(6, "rodAt(1, 4)");
        x.row(1, 0, 0, 1, 0, 0, 1).with("plate(1, 3)").does("hang(7, 4, 0, 1)").gives(7, "rodAt(4, 4)");
        x.with("rod(2, 0, true)").refuses(5, "hang(8, 4, 0, 1)").does("hang(8, 6, 1, 1000)");
    }

    /** The order: 2, 5, 7, 8. */
    private static void promise14Order() {
        Run x = small(14);
        x.refuses(2, "hang(7, 2, 2, 0)", "hang(2, 7, 2, 0)", "hang(-1, -1, 2, 0)", "hang(6, -1, 0, 1)");
        x.refuses(5, "hang(2, 3, 2, 0)", "hang(1, 4, 2, 0)", "hang(3, 3, -1, 1001)", "hang(4, 4, 2, 0)");
        x.refuses(7, "hang(2, 0, 2, 1)", "hang(2, 0, 0, 0)", "hang(2, 0, 0, 1001)", "hang(1, 1, 1, 5)",
            "hang(0, 1, 1, 1)");
        x.refuses(8, "hang(2, 0, 0, 1)");
    }

    /** 7: the ROD is in the PART's own MOBILE below it, or it. */
    private static void promise14Below() {
        Run x = small(14).with("hang(6, 1, 0, 1)");
        x.refuses(7, "hang(0, 0, 0, 1)", "hang(6, 6, 0, 1)", "hang(1, 1, 0, 1)");
        x.refuses(7, "hang(0, 1, 0, 1)", "hang(0, 6, 0, 1)", "hang(0, 6, 1, 1)", "hang(1, 6, 0, 1)");
        // Above it, or beside it: that it hangs is what is wrong.
        x.refuses(8, "hang(6, 0, 0, 1)", "hang(6, 1, 1, 1)", "hang(1, 0, 1, 1)", "hang(2, 6, 0, 1)",
            "hang(3, 6, 1, 1)");
        // Once it is off, its own MOBILE ends above it.
        x.with("take(6)").refuses(7, "hang(6, 6, 1, 1)").does("hang(0, 6, 1, 1)");
        x.refuses(7, "hang(6, 1, 0, 1)", "hang(6, 0, 0, 1)").gives(6, "part(2, 6)").gives(13, "part(2, 5)");
    }

    /** A PART is taken off: it is a TOP then (2; 8). */
    private static void promise15() {
        Run x = small(15);
        x.refuses(2, "take(-1)", "take(7)", "take(min)", "take(max)", "take(60)");
        x.refuses(8, "take(0)", "take(5)", "take(6)");
        x.does("take(1)").refuses(8, "take(1)");
        x.eachGives("part(1, #)", 2, 0, -1, -1, 0, 0, 1).eachGives("part(2, #)", 1, 6, 1, 1, 7, 7, 1);
        x.gives(-1, "rodAt(0, 4)").gives(3, "rodAt(0, 5)").gives(2, "rodAt(1, 5)");
        x.does("take(3)", "take(2)").gives(-1, "rodAt(0, 5)").gives(-1, "rodAt(1, 5)");
        x.does("hang(2, 0, 0, 1000)", "hang(3, 0, 1, 1)").gives(1000, "part(2, 5)");
    }

    /** The thread of a PART that hangs has another length (2; 8; 7: 8 ahead of it). */
    private static void promise16() {
        Run x = small(16);
        x.refuses(2, "thread(-1, 1)", "thread(7, 1)", "thread(min, 1)", "thread(max, 1)", "thread(7, 0)");
        x.refuses(8, "thread(0, 1)", "thread(5, 1000)");
        x.refuses(8, "thread(0, 0)", "thread(0, 1001)", "thread(5, min)", "thread(5, max)");
        x.refuses(7, "thread(1, 0)", "thread(1, -1)", "thread(1, 1001)", "thread(1, min)", "thread(1, max)");
        x.gives(5, "part(1, 4)").gives(12, "part(2, 5)");
        x.does("thread(1, 1)").gives(1, "part(1, 4)").gives(8, "part(2, 5)");
        x.does("thread(1, 1000)").gives(1000, "part(1, 4)").gives(1007, "part(2, 5)").gives(9, "part(3, 5)");
        x.does("thread(1, 1000)", "take(1)").refuses(8, "thread(1, 1000)").gives(7, "part(2, 5)");
    }

    /** A ROD is TIED at p / q (1 to q - 1; q 2 to 1,000,000; 2; 5; 7). */
    private static void promise17() {
        Run x = small(17);
        x.refuses(2, "tied(-1, 1, 2)", "tied(7, 1, 2)", "tied(min, 1, 2)", "tied(max, 1, 2)", "tied(7, 0, 0)");
        x.refuses(5, "tied(2, 1, 2)", "tied(3, 1, 2)", "tied(5, 0, 0)");
        x.refuses(7, "tied(0, 0, 2)", "tied(0, 2, 2)", "tied(0, 3, 2)", "tied(0, -1, 2)", "tied(0, min, 2)");
        x.refuses(7, "tied(0, max, 2)", "tied(0, 0, 1)", "tied(0, 1, 1)", "tied(0, 0, 0)", "tied(0, -1, 0)");
        x.refuses(7, "tied(0, 1, 1000001)", "tied(0, 1, max)", "tied(0, 1, min)", "tied(0, -2, -1)",
            "tied(0, min, min)");
        x.refuses(7, "tied(0, 1000000, 1000000)", "tied(4, 0, 1000000)", "tied(0, max, min)");
        x.gives(1, "rodAt(0, 2)").gives(2, "rodAt(0, 3)");
        x.does("tied(0, 1, 1000000)").gives(1, "rodAt(0, 2)").gives(1000000, "rodAt(0, 3)");
        x.does("tied(4, 999999, 1000000)").gives(999999, "rodAt(4, 2)").gives(1000000, "rodAt(4, 3)");
        x.does("tied(0, 2, 3)").gives(2, "rodAt(0, 2)").gives(3, "rodAt(0, 3)");
        x.does("tied(0, 500, 1000)").gives(500, "rodAt(0, 2)").gives(1000, "rodAt(0, 3)");
        x.does("tied(0, 1, 2)").gives(1, "rodAt(0, 2)").gives(2, "rodAt(0, 3)");
    }

    /** What hangs at both ends of a ROD, each with its thread, changes ends (2; 5). */
    private static void promise18() {
        Run x = small(18).with("tied(0, 1, 5)", "hang(5, 4, 0, 1000)");
        x.refuses(2, "swap(-1)", "swap(7)", "swap(min)", "swap(max)").refuses(5, "swap(2)", "swap(3)", "swap(5)");
        // Two things, one thing, no thing.
        x.does("swap(0)").eachGives("rodAt(0, #)", 10, 3, 1, 5, 3, 1);
        x.eachGives("part(3, #)", 4, 8, 0, 0, 9, 9, 0).eachGives("part(1, #)", 2, 0, 0, 1, 5, 5, 0);
        x.gives(2, "rodAt(1, 5)").gives(12, "part(2, 5)");
        x.does("swap(4)").gives(-1, "rodAt(4, 4)").gives(5, "rodAt(4, 5)").gives(1, "part(5, 3)")
            .gives(1000, "part(5, 4)");
        x.does("swap(4)").gives(5, "rodAt(4, 4)").gives(-1, "rodAt(4, 5)").gives(0, "part(5, 3)");
        x.does("swap(6)").gives(-1, "rodAt(6, 4)").gives(-1, "rodAt(6, 5)");
        // The ends that are FREE now are those, and what was swapped comes off there.
        x.does("swap(4)").refuses(8, "hang(6, 0, 0, 1)").does("take(5)").gives(-1, "rodAt(4, 5)");
        x.does("hang(5, 4, 0, 1)");
    }

    /** The LOAD of a PART (2). */
    private static void promise19() {
        Run x = small(19);
        x.refuses(2, "bears(-1)", "bears(7)", "bears(min)", "bears(max)");
        x.eachGives("bears(#)", 44, 6, 6, 8, 0, 1, 0);
        x.with("rod(1000, 1000, false)", "weight(1000000)", "rod(2, 1, true)");
        x.eachGives("bears(#)", 44, 6, 6, 8, 0, 1, 0, 1000000, 1000000, 2);
        x.with("hang(8, 9, 0, 1)", "hang(9, 7, 1, 1)").gives(2000002, "bears(7)").gives(1000002, "bears(9)");
        x.with("hang(0, 7, 0, 1)").gives(2000046, "bears(7)").gives(44, "bears(0)");
        x.with("take(2)").gives(2000040, "bears(7)").gives(38, "bears(0)").gives(0, "bears(1)");
    }

    /** 0 if a ROD is LEVEL, exactly, 1 if its left side sinks, 2 the right one (2; 5). */
    private static void promise20() {
        Run x = small(20);
        x.refuses(2, "tilts(-1)", "tilts(7)", "tilts(min)", "tilts(max)")
            .refuses(5, "tilts(2)", "tilts(3)", "tilts(5)");
        // FREE both, without HEFT: 0 comes to as much as 0, wherever it is TIED.
        x.gives(0, "tilts(6)").with("tied(6, 1, 1000000)").gives(0, "tilts(6)");
        // Something on one side alone, as little as can be, as far in as can be.
        x.with("tied(4, 1, 1000000)", "hang(5, 4, 0, 1)").gives(1, "tilts(4)").with("swap(4)").gives(2, "tilts(4)");
        // 499,999 times 500,001 is as much as the other way round; one more or less is not.
        for (int off = -1; off <= 1; off++) {
            Run y = new Run(20).with("rod(1000, 0, false)", "tied(0, 500001, 1000000)",
                "weight(" + (499999 + off) + ")",
                "weight(500001)", "hang(1, 0, 0, 1)", "hang(2, 0, 1, 1)");
            y.gives(off == 0 ? 0 : off > 0 ? 1 : 2, "tilts(0)");
            y.with("swap(0)", "tied(0, 499999, 1000000)").gives(off == 0 ? 0 : off > 0 ? 2 : 1, "tilts(0)");
        }
        // Differences that would come to 0, or to less than 0, in 32 bits: 524,288 twice, TIED 2,048 and 1,024 right of
        // the middle of 1,000,000.
        Run w = new Run(20).with("rod(2, 0, true)", "weight(524288)", "weight(524288)", "hang(1, 0, 0, 1)",
            "hang(2, 0, 1, 1)").gives(0, "tilts(0)");
        w.with("tied(0, 502048, 1000000)").gives(1, "tilts(0)").with("tied(0, 501024, 1000000)").gives(1, "tilts(0)");
        w.with("tied(0, 497952, 1000000)").gives(2, "tilts(0)").with("tied(0, 498000, 1000000)").gives(2, "tilts(0)");
        // One part in a million: 999,999 to 1.
        for (int p = 999998; p <= 999999; p++) {
            Run y = new Run(20).with("rod(2, 0, true)", "tied(0, " + p + ", 1000000)", "weight(1)", "weight(999999)",
                "hang(1, 0, 0, 1)", "hang(2, 0, 1, 1)");
            y.gives(p == 999999 ? 0 : 2, "tilts(0)");
        }
    }

    /** With HEFT: its own weight sinks where more of it is. */
    private static void promise20Heft() {
        Run x = new Run(20).with("rod(1000, 1000, false)").gives(0, "tilts(0)");
        x.with("tied(0, 499999, 1000000)").gives(2, "tilts(0)").with("tied(0, 500001, 1000000)").gives(1, "tilts(0)");
        x.with("tied(0, 500000, 1000000)").gives(0, "tilts(0)");
        // A weight of 1 on 1,000,000 of its own: LEVEL at 500,000 of 1,000,001. On each side no fraction that can be
        // told is nearer to that than 1 / 2 and 499,999 / 999,999.
        x.with("weight(1)", "hang(1, 0, 0, 1000)").gives(1, "tilts(0)");
        x.with("tied(0, 499999, 999999)").gives(2, "tilts(0)");
        x.with("all(0)").gives(500000, "rodAt(0, 2)").gives(1000001, "rodAt(0, 3)").gives(0, "tilts(0)");
        // By as little as can be, on either side: 3 of its own, LEVEL at 3 / 10 or 7 / 10, TIED at 1 / 3 or 2 / 3.
        Run z = new Run(20).with("rod(3, 1, true)", "weight(2)", "hang(1, 0, 0, 1)", "tied(0, 1, 3)");
        z.gives(1, "tilts(0)").with("swap(0)", "tied(0, 2, 3)").gives(2, "tilts(0)");
        z.with("tied(0, 7, 10)").gives(0, "tilts(0)");
        // The least HEFT on the least LENGTH: 2 of its own, LEVEL at 4 / 6 with a weight of 1 right.
        Run y = new Run(20).with("rod(2, 1, true)", "weight(1)", "hang(1, 0, 1, 1)", "tied(0, 4, 6)");
        y.gives(0, "tilts(0)");
        y.with("tied(0, 666667, 1000000)").gives(1, "tilts(0)").with("tied(0, 666666, 1000000)").gives(2, "tilts(0)");
    }

    /** How many RODS of a TOP's MOBILE are not LEVEL (2; 8: it hangs). */
    private static void promise21() {
        Run x = small(21);
        x.refuses(2, "wrong(-1)", "wrong(7)", "wrong(min)", "wrong(max)")
            .refuses(8, "wrong(1)", "wrong(2)", "wrong(3)");
        x.gives(2, "wrong(0)").gives(0, "wrong(4)").gives(0, "wrong(5)").gives(0, "wrong(6)");
        // A SHORT counts; RODS of other MOBILES do not.
        x.with("hang(5, 4, 0, 1)").gives(1, "wrong(4)").gives(2, "wrong(0)");
        x.with("hang(4, 1, 0, 1)").gives(3, "wrong(0)").refuses(8, "wrong(4)");
        x.with("take(5)", "take(2)").gives(1, "wrong(0)").with("take(3)", "tied(0, 1, 2)").gives(0, "wrong(0)");
        x.with("take(1)").gives(0, "wrong(1)").gives(0, "wrong(3)");
    }

    /** Where a ROD would be LEVEL, what 0: p, 1: q (2; 5; 7; 11: nowhere between its ends). */
    private static void promise22() {
        Run x = small(22);
        x.refuses(2, "tie(-1, 0)", "tie(7, 0)", "tie(min, 0)", "tie(max, 0)", "tie(7, 2)");
        x.refuses(5, "tie(2, 0)", "tie(3, 1)", "tie(5, 0)", "tie(2, 2)", "tie(3, -1)");
        // ROD 1 is nowhere LEVEL: what is asked is ahead of that.
        x.refuses(7, "tie(0, -1)", "tie(0, 2)", "tie(0, min)", "tie(0, max)", "tie(1, 2)", "tie(1, -1)");
        x.refuses(11, "tie(1, 0)", "tie(1, 1)");
        x.gives(23, "tie(0, 0)").gives(44, "tie(0, 1)").gives(1, "rodAt(0, 2)").gives(2, "rodAt(0, 3)");
        // Where it is TIED now has no part in it.
        x.with("tied(0, 1, 1000000)").gives(23, "tie(0, 0)").gives(44, "tie(0, 1)");
    }

    /** 11: nowhere between its ends. */
    private static void promise22BetweenItsEnds() {
        // Without HEFT: at an end it is nowhere between them, on either side, and with nothing at all.
        Run x = new Run(22).with("rod(1000, 0, false)", "weight(1)", "weight(1000000)")
            .refuses(11, "tie(0, 0)", "tie(0, 1)");
        x.with("hang(1, 0, 0, 1)").refuses(11, "tie(0, 0)", "tie(0, 1)").with("swap(0)")
            .refuses(11, "tie(0, 0)", "tie(0, 1)");
        // The least weight on the other side brings it in.
        x.with("hang(2, 0, 0, 1)").gives(1, "tie(0, 0)").gives(1000001, "tie(0, 1)");
        x.with("swap(0)").gives(1000000, "tie(0, 0)").gives(1000001, "tie(0, 1)");
        // So does the least HEFT.
        Run y = new Run(22).row(0, -1000, -1000, 1000, -1000, 1000, 1000, -1000, 1000)
            .with("rod(2, 1, true)", "plate(0, 4)");
        y.gives(1, "tie(0, 0)").gives(2, "tie(0, 1)");
        y.with("hang(1, 0, 0, 1)").gives(1, "tie(0, 0)").gives(8000002, "tie(0, 1)");
        y.with("swap(0)").gives(8000001, "tie(0, 0)").gives(8000002, "tie(0, 1)");
        // A ROD below that bears nothing and has no HEFT is no LOAD.
        Run z = new Run(22).with("rod(4, 0, false)", "rod(4, 0, false)", "weight(3)", "hang(1, 0, 0, 1)",
            "hang(2, 0, 1, 1)");
        z.refuses(11, "tie(0, 0)", "tie(1, 0)").with("take(2)").refuses(11, "tie(0, 0)");
    }

    /** All RODS of a TOP's MOBILE are TIED where they are LEVEL (2; 8; 11: one is nowhere so: none is). */
    private static void promise23() {
        Run x = small(23);
        x.refuses(2, "all(-1)", "all(7)", "all(min)", "all(max)");
        // ROD 1 is nowhere LEVEL: that it hangs is ahead of that.
        x.refuses(8, "all(1)", "all(2)", "all(3)").refuses(11, "all(0)", "all(4)", "all(6)");
        x.gives(0, "all(5)");
        // The one that is nowhere so is below, or the TOP itself: none is TIED.
        x.with("hang(5, 1, 0, 3)").gives(2, "all(0)").gives(6, "rodAt(1, 2)").gives(7, "rodAt(1, 3)");
        x.gives(23, "rodAt(0, 2)").gives(45, "rodAt(0, 3)").gives(0, "wrong(0)");
        x.with("hang(0, 6, 0, 1)").refuses(11, "all(6)").gives(23, "rodAt(0, 2)").gives(1, "rodAt(6, 2)");
        x.with("weight(45)", "hang(7, 6, 1, 1)", "tied(0, 3, 4)").gives(3, "all(6)").gives(1, "rodAt(6, 2)");
        x.gives(2, "rodAt(6, 3)").gives(23, "rodAt(0, 2)").refuses(8, "all(0)");
        // RODS of other MOBILES stay as they are TIED.
        x.with("tied(4, 1, 7)").gives(3, "all(6)").gives(7, "rodAt(4, 3)");
    }

    /** Promises 19 to 23 with the greatest LOADS that 60 PARTS can have: 30 PLATES on 29 RODS, one below the other. */
    private static void greatest() {
        Run[] of = new Run[5];
        for (int i = 0; i < 5; i++) {
            of[i] = new Run(19 + i).row(0, -1000, -1000, 1000, -1000, 1000, 1000, -1000, 1000);
            for (int r = 0; r < 29; r++) {
                of[i].with("rod(1000, 1000, false)", "plate(0, 4)", "hang(" + (2 * r + 1) + ", " + 2 * r + ", 0, 1)");
                if (r > 0) {
                    of[i].with("hang(" + 2 * r + ", " + (2 * r - 2) + ", 1, 1)");
                }
            }
            of[i].with("plate(0, 4)", "hang(58, 56, 1, 1)");
        }
        long right = 28 * 9000000L + 8000000;
        long whole = 2 * (right + 9000000);
        long common = BigInteger.valueOf(2 * right + 1000000).gcd(BigInteger.valueOf(whole)).longValueExact();
        long p = (2 * right + 1000000) / common;
        long q = whole / common;
        of[0].gives(right + 9000000, "bears(0)");
        of[1].gives(2, "tilts(0)").with("all(0)").gives(0, "tilts(0)").with("swap(0)").gives(1, "tilts(0)");
        of[2].gives(28, "wrong(0)").with("all(0)").gives(0, "wrong(0)").with("swap(54)").gives(1, "wrong(0)");
        of[3].gives(p, "tie(0, 0)").gives(q, "tie(0, 1)").gives(1, "tie(56, 0)").gives(2, "tie(56, 1)");
        of[4].gives(29, "all(0)").gives(p, "rodAt(0, 2)").gives(q, "rodAt(0, 3)");
    }
}
