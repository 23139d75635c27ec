/** The boundary cases of promises 24 to 28, a method for each promise. */
public final class EdgesOfTurningTest {
    public static void main(String[] args) {
        promise24Least();
        promise24Order();
        promise24Whole();
        promise25();
        promise26Order();
        promise26Whole();
        promise26Meet();
        promise26LastRod();
        promise26Numbers();
        promise27();
        promise28Order();
        promise28Five();
        promise28First();
        promise28Threads();
        promise28WhoseThreads();
        promise28SpentBeforeNone();
        promise28SpentBeforeFound();
        Due.end();
    }

    private static String hang(int part, int rod, int end, int thread) {
        return "hang(" + part + ", " + rod + ", " + end + ", " + thread + ")";
    }

    /** RODS of 1,000 with these left ARMS, each at the left end of the one before, and a WEIGHT at the last one's. */
    private static Run chain(int promise, int... arms) {
        Run x = new Run(promise);
        for (int i = 0; i < arms.length; i++) {
            x.with("rod(1000, 0, false)", "tied(" + i + ", " + arms[i] + ", 1000)");
            if (i > 0) {
                x.with(hang(i, i - 1, 0, 1));
            }
        }
        return x.with("weight(1)", hang(arms.length, arms.length - 1, 0, 1));
    }

    private static void reaches(int least, int greatest, int... arms) {
        Run x = chain(24, arms);
        x.gives(least, "reach(" + arms.length + ", 0, false)").gives(greatest, "reach(" + arms.length + ", 0, true)");
    }

    /** From the greater of 0 and (twice the longest ARM on the way less all) to all. */
    private static void promise24Least() {
        reaches(1, 1, 1);
        reaches(999, 999, 999);
        reaches(0, 10, 5, 5);
        reaches(1, 9, 5, 4);
        reaches(1, 9, 4, 5);
        reaches(0, 10, 5, 4, 1);
        reaches(0, 10, 1, 5, 4);
        reaches(0, 10, 4, 1, 5);
        reaches(1, 11, 6, 4, 1);
        reaches(1, 11, 4, 6, 1);
        reaches(1, 11, 1, 4, 6);
        reaches(0, 11, 5, 4, 2);
        reaches(998, 1000, 999, 1);
        reaches(0, 999 * 4, 999, 999, 999, 999);
        // The other end has the rest of the LENGTH for an ARM; each ROD on the way counts from its own on.
        Run x = chain(24, 3, 200, 1);
        x.gives(196, "reach(3, 0, false)").gives(204, "reach(3, 0, true)").gives(199, "reach(3, 1, false)");
        x.gives(1, "reach(3, 2, true)").gives(3, "reach(1, 0, false)").gives(203, "reach(2, 0, true)");
        x.with("swap(0)").gives(796, "reach(3, 0, false)").gives(1198, "reach(3, 0, true)")
            .gives(997, "reach(1, 0, true)");
        x.with("swap(2)").gives(0, "reach(3, 0, false)").gives(997 + 200 + 999, "reach(3, 0, true)");
    }

    /** 2; 5; 8: it is not above it; 9: asked in this order. */
    private static void promise24Order() {
        Run x = chain(24, 5, 5).row(0, 0, 0, 4, 0, 0, 4).with("plate(0, 3)", "rod(3, 0, false)", "weight(1)",
            "rod(3, 0, false)", hang(3, 1, 1, 1), hang(6, 0, 1, 1));
        x.refuses(2, "reach(-1, 0, true)", "reach(7, 0, true)", "reach(2, -1, true)", "reach(2, 7, false)");
        x.refuses(2, "reach(min, 0, true)", "reach(2, max, true)", "reach(7, 2, true)", "reach(7, 7, false)");
        x.refuses(5, "reach(2, 2, true)", "reach(0, 2, false)", "reach(2, 3, true)", "reach(2, 5, true)",
            "reach(6, 3, true)");
        // Itself, below it, beside it, of another MOBILE; 8 is ahead of 9, since ARMS of RODS 4 and 6 are not WHOLE.
        x.refuses(8, "reach(0, 0, true)", "reach(1, 1, false)", "reach(0, 1, true)", "reach(2, 6, true)",
            "reach(6, 1, true)");
        x.refuses(8, "reach(2, 4, true)", "reach(5, 0, true)", "reach(6, 6, true)", "reach(0, 6, false)",
            "reach(4, 4, true)");
        x.with(hang(5, 6, 0, 1)).refuses(9, "reach(5, 6, true)", "reach(5, 0, true)", "reach(5, 0, false)");
        x.gives(995, "reach(6, 0, true)").gives(10, "reach(2, 0, true)").gives(1000, "reach(3, 0, true)");
    }

    /** 9: an ARM on the way is not WHOLE. */
    private static void promise24Whole() {
        Run x = chain(24, 5, 5, 5).gives(15, "reach(3, 0, true)");
        for (int rod = 0; rod < 3; rod++) {
            String tied = "tied(" + rod + ", 1, 3)";
            x.with(tied).refuses(9, "reach(3, 0, true)", "reach(3, 0, false)");
            // Not on the way: the PART's own ARMS, and those above the ROD.
            if (rod == 2) {
                x.gives(10, "reach(2, 0, true)");
            } else if (rod == 0) {
                x.gives(10, "reach(3, 1, true)");
            }
            x.with("tied(" + rod + ", 5, 1000)");
        }
        int[][] whole = {{1, 1000, 1}, {999, 1000, 999}, {999000, 1000000, 999}, {1000, 1000000, 1}, {2, 4, 500},
            {1, 8, 125}};
        for (int[] at : whole) {
            x.with("tied(0, " + at[0] + ", " + at[1] + ")").gives(at[2], "reach(1, 0, true)");
        }
        int[][] broken = {{1, 1001}, {1, 999}, {998, 999}, {999001, 1000000}, {998999, 1000000}, {1, 1000000}, {1, 3},
            {1, 16}};
        for (int[] at : broken) {
            x.with("tied(0, " + at[0] + ", " + at[1] + ")").refuses(9, "reach(1, 0, true)");
        }
        // LEVEL at 4,300,001 / 5,033,704: 1,000 times the one is 5,033,704 in 32 bits, and yet no multiple of it.
        Run z = new Run(24).row(0, -1000, 0, 1000, 0, 1000, 1000, -1000, 1000);
        z.with("rod(1000, 0, false)", "rod(1000, 0, false)", "plate(0, 4)", "weight(300001)", "weight(733703)",
            hang(1, 0, 1, 1), hang(2, 1, 0, 1), hang(3, 1, 1, 1), hang(4, 0, 0, 1)).gives(2, "all(0)");
        z.gives(4300001, "rodAt(0, 2)").gives(5033704, "rodAt(0, 3)").refuses(9, "reach(4, 0, true)");
        // The least LENGTH, and an odd one, TIED in the middle.
        Run y = new Run(24).with("rod(2, 0, true)", "rod(3, 0, true)", "weight(1)", "weight(1)", hang(2, 0, 1, 1),
            hang(3, 1, 1, 1));
        y.gives(1, "reach(2, 0, true)").refuses(9, "reach(3, 1, true)");
        y.with("tied(1, 333333, 999999)").gives(2, "reach(3, 1, true)").with("swap(1)").gives(1, "reach(3, 1, false)");
    }

    /** The PART of a TOP's MOBILE with the greatest HEIGHT, the first of these (2; 8). */
    private static void promise25() {
        Run x = new Run(25).with("weight(1)", "rod(4, 0, false)", "weight(1)", "rod(4, 0, false)", "weight(1)");
        x.refuses(2, "lowest(-1)", "lowest(5)", "lowest(min)", "lowest(max)");
        x.gives(0, "lowest(0)").gives(1, "lowest(1)").gives(3, "lowest(3)");
        x.with(hang(3, 1, 0, 5), hang(2, 1, 1, 5)).refuses(8, "lowest(2)", "lowest(3)");
        // As low: the one with the lesser number, at whichever end and however deep.
        x.gives(2, "lowest(1)").with("swap(1)").gives(2, "lowest(1)");
        x.with("thread(3, 6)").gives(3, "lowest(1)").with("thread(3, 4)").gives(2, "lowest(1)");
        x.with(hang(4, 3, 0, 1)).gives(2, "lowest(1)").with("thread(4, 2)").gives(4, "lowest(1)");
        x.with("thread(4, 1)", hang(0, 3, 1, 1)).gives(0, "lowest(1)").with("thread(0, 1000)").gives(0, "lowest(1)");
        x.with("take(0)").gives(0, "lowest(0)").gives(2, "lowest(1)");
    }

    /** 2: also one twice; 5; 8: not of one MOBILE; 9: asked in this order. */
    private static void promise26Order() {
        Run x = across(26, 4, arms(5), arms(5)).row(0, 0, 0, 4, 0, 0, 4).with("weight(1)", "weight(1)",
            "plate(0, 3)", "rod(3, 0, false)", hang(6, 8, 0, 1));
        x.refuses(2, "clash(-1, 2)", "clash(2, -1)", "clash(9, 2)", "clash(2, 9)", "clash(min, 2)", "clash(2, max)");
        x.refuses(2, "clash(2, 2)", "clash(0, 0)", "clash(7, 7)", "clash(9, 9)", "clash(9, 0)", "clash(0, 9)");
        x.refuses(5, "clash(2, 0)", "clash(0, 2)", "clash(2, 7)", "clash(7, 2)", "clash(0, 1)", "clash(8, 5)");
        x.refuses(8, "clash(2, 5)", "clash(5, 2)", "clash(5, 6)", "clash(6, 4)");
        // Not of one MOBILE is ahead of ARMS that are not WHOLE.
        x.with("tied(1, 1, 3)").refuses(8, "clash(2, 6)", "clash(6, 2)").refuses(9, "clash(2, 4)", "clash(4, 2)");
    }

    /** 9: an ARM below the last ROD above both, on the way to one, is not WHOLE. */
    private static void promise26Whole() {
        // ROD 0 bears ROD 1 with WEIGHT 2 left and ROD 3 with WEIGHT 4 left; WEIGHT 5 is right on ROD 1.
        Run x = across(26, 4, arms(5), arms(5)).with("weight(1)", hang(5, 1, 1, 99));
        x.gives(1, "clash(2, 4)").gives(0, "clash(2, 5)");
        x.with("tied(0, 1, 3)").gives(1, "clash(2, 4)").gives(0, "clash(2, 5)");
        x.with("tied(1, 1, 3)").refuses(9, "clash(2, 4)", "clash(4, 2)", "clash(5, 4)").gives(0, "clash(2, 5)");
        x.with("tied(1, 5, 1000)", "tied(3, 1, 3)").refuses(9, "clash(2, 4)", "clash(4, 2)", "clash(5, 4)");
        x.gives(0, "clash(5, 2)");
        // Also where the HEIGHTS are unlike.
        x.with("thread(2, 100)").refuses(9, "clash(2, 4)").with("tied(3, 5, 1000)").gives(0, "clash(2, 4)");
    }

    /**
     * ROD 0 of this LENGTH with RODS of 1,000 with these left ARMS left and right, one below the other, and a WEIGHT at
     * the left end of the last ones, both of HEIGHT 100; the numbers go down the left way and then down the right one.
     */
    private static Run across(int promise, int length, int[] left, int[] right) {
        Run x = new Run(promise).with("rod(" + length + ", 0, false)");
        int next = 1;
        for (int end = 0; end < 2; end++) {
            int[] arms = end == 0 ? left : right;
            int above = 0;
            for (int arm : arms) {
                x.with("rod(1000, 0, false)", "tied(" + next + ", " + arm + ", 1000)",
                    hang(next, above, above == 0 ? end : 0, 1));
                above = next;
                next++;
            }
            x.with("weight(1)", hang(next, above, above == 0 ? end : 0, 100 - arms.length));
            next++;
        }
        return x;
    }

    private static int[] arms(int... arms) {
        return arms;
    }

    /** They MEET on RODS of the LENGTHS from the one to the other, and on none that is one shorter or longer. */
    private static void meet(int from, int to, int[] left, int[] right) {
        for (int turn = 0; turn < 2; turn++) {
            int[] one = turn == 0 ? left : right;
            int[] other = turn == 0 ? right : left;
            int a = one.length + 1;
            int b = a + other.length + 1;
            String ask = "clash(" + a + ", " + b + ")";
            String back = "clash(" + b + ", " + a + ")";
            for (int length = Math.max(2, from - 1); length <= Math.min(1000, to + 1); length++) {
                if (length <= from + 1 || length >= to - 1) {
                    int due = length >= from && length <= to ? 1 : 0;
                    Run x = across(26, length, one, other).gives(due, ask).gives(due, back);
                    // HEIGHTS that are not alike by one.
                    x.with("thread(" + a + ", " + (101 - one.length) + ")").gives(0, ask);
                    x.with("thread(" + a + ", " + (99 - one.length) + ")").gives(0, back);
                }
            }
        }
    }

    /** Some a and b make LENGTH not above a + b and not below a - b and b - a. */
    private static void promise26Meet() {
        // On one ROD: 0 and 0.
        across(26, 2, arms(), arms()).gives(0, "clash(1, 2)");
        // 0 where it hangs at that end itself: LENGTH is the other one's distance.
        meet(2, 2, arms(2), arms());
        meet(500, 500, arms(500), arms());
        meet(999, 999, arms(999), arms());
        meet(4, 10, arms(7, 3), arms());
        meet(2, 14, arms(7, 7), arms());
        meet(3, 11, arms(7, 3, 1), arms());
        // One distance each.
        meet(4, 14, arms(9), arms(5));
        meet(2, 10, arms(5), arms(5));
        meet(998, 1000, arms(999), arms(1));
        // a from 6 to 12: less the greatest b, not the least.
        meet(4, 14, arms(9, 3), arms(2));
        meet(3, 15, arms(9, 3), arms(2, 1));
        meet(2, 17, arms(9, 3), arms(4, 1));
        meet(13, 67, arms(40, 5), arms(12, 10));
        // A distance between the least and the greatest does where neither of these would.
        meet(2, 40, arms(20, 10), arms(8, 2));
    }

    /** R is the last ROD above both: RODS above it, and its own ARMS, have no part in it. */
    private static void promise26LastRod() {
        for (int length = 9; length <= 11; length++) {
            int due = length <= 10 ? 1 : 0;
            Run x = across(26, length, arms(5), arms(5)).with("rod(7, 0, false)", hang(0, 5, 1, 900), "weight(1)");
            x.gives(due, "clash(2, 4)").with("tied(0, 1, 1000000)").gives(due, "clash(4, 2)");
            // For a third one, as low, the last ROD above both is the upper one: ROD 0's ARM is on the way then.
            x.with(hang(6, 5, 0, 1000)).refuses(9, "clash(2, 6)", "clash(6, 4)").with("tied(0, 2, " + length + ")");
            x.gives(1, "clash(2, 6)").with("tied(0, 1, " + length + ")").gives(0, "clash(2, 6)");
            x.gives(due, "clash(2, 4)");
        }
    }

    /** Which PARTS were made first has no part in it: PART 0 a ROD on the way to one, or one of the two. */
    private static void promise26Numbers() {
        for (int length = 10; length <= 11; length++) {
            int due = length <= 10 ? 1 : 0;
            String top = "rod(" + length + ", 0, false)";
            Run x = new Run(26).with("rod(10, 0, false)", "weight(1)", top, "weight(1)", "rod(10, 0, false)",
                hang(0, 2, 1, 2), hang(3, 0, 0, 2), hang(4, 2, 0, 1), hang(1, 4, 1, 3), "tied(2, 1, " + length + ")");
            x.gives(due, "clash(1, 3)").gives(due, "clash(3, 1)").gives(due, "clashes(2)");
            Run y = new Run(26).with("weight(1)", "weight(1)", "rod(10, 0, false)", "rod(10, 0, false)", top,
                hang(0, 3, 0, 2), hang(1, 2, 0, 1), hang(2, 4, 0, 2), hang(3, 4, 1, 1), "tied(4, 1, " + length + ")");
            y.gives(due, "clash(0, 1)").gives(due, "clash(1, 0)").gives(due, "clashes(4)");
        }
    }

    /** How many pairs of WEIGHTS of a TOP's MOBILE can MEET (2; 8; 9: an ARM of it is not WHOLE). */
    private static void promise27() {
        Run x = across(27, 10, arms(500), arms(500)).row(0, 0, 0, 4, 0, 0, 4)
            .with("plate(0, 3)", "weight(1)", "weight(1)");
        x.refuses(2, "clashes(-1)", "clashes(8)", "clashes(min)", "clashes(max)")
            .refuses(8, "clashes(1)", "clashes(4)");
        x.gives(1, "clashes(0)").gives(0, "clashes(5)").gives(0, "clashes(6)");
        // A PLATE as low meets none; a WEIGHT there does, both ways over.
        x.with(hang(5, 1, 1, 99)).gives(1, "clashes(0)").with("take(5)", hang(6, 1, 1, 99)).gives(2, "clashes(0)");
        x.with(hang(7, 3, 1, 99)).gives(4, "clashes(0)").with("thread(7, 98)").gives(2, "clashes(0)");
        // Any ARM of it: the TOP's, one below, one of a ROD that bears nothing; that it hangs is ahead of that.
        x.with("tied(0, 1, 3)").refuses(9, "clashes(0)").with("tied(0, 1, 2)").gives(2, "clashes(0)");
        x.with("tied(3, 1, 3)").refuses(9, "clashes(0)").refuses(8, "clashes(3)", "clashes(2)");
        x.with("tied(3, 500, 1000)", "take(7)", "rod(3, 0, false)", hang(8, 3, 1, 1)).refuses(9, "clashes(0)");
        x.with("take(8)").gives(2, "clashes(0)").refuses(9, "clashes(8)");
        x.with("tied(8, 1, 3)").gives(0, "clashes(8)");
        // An odd LENGTH of the TOP alone, with nothing on it.
        new Run(27).with("rod(999, 0, false)").refuses(9, "clashes(0)").with("tied(0, 1, 3)").gives(0, "clashes(0)");
    }

    /**
     * WEIGHT 4 hangs left by four threads of 1,000, which can't be longer. It can meet each of so many WEIGHTS right,
     * as low, none of which can meet another; each has a ROD of its own, by 500, and hangs on it by 500: these threads
     * alone can be longer, beside those of RODS that bear no WEIGHT, which come first by number, from 12 on. Then come
     * the RODS of the right WEIGHTS, then these WEIGHTS.
     */
    private static Run crowd(int many, int... others) {
        Run x = new Run(28).with("rod(2, 0, false)", "rod(1000, 0, false)", "rod(1000, 0, false)",
            "rod(1000, 0, false)", "weight(1)", "rod(1000, 0, false)", "rod(200, 0, false)", "rod(200, 0, false)");
        for (int i = 0; i < 4; i++) {
            x.with("rod(40, 0, false)", hang(i + 1, i, 0, 1000), hang(8 + i, 6 + i / 2, i % 2, 1000));
            if (i == 1) {
                x.with(hang(5, 0, 1, 1000), hang(6, 5, 0, 1000), hang(7, 5, 1, 1000));
            }
        }
        int next = 12;
        for (int thread : others) {
            x.with("rod(2, 0, false)", hang(next, next == 12 ? 1 : next - 1, 1, thread));
            next++;
        }
        for (int i = 0; i < many; i++) {
            x.with("rod(4, 0, false)", hang(next + i, 8 + i / 2, i % 2, 500));
        }
        for (int i = 0; i < many; i++) {
            x.with("weight(1)", hang(next + many + i, next + i, 0, 500));
        }
        return x;
    }

    /** 2; 8; 9 as clashes(); 10; 11: asked in this order. */
    private static void promise28Order() {
        Run x = across(28, 10, arms(5), arms(5)).row(0, 0, 0, 4, 0, 0, 4).with("plate(0, 3)", "weight(1)");
        x.refuses(2, "clear(-1)", "clear(7)", "clear(min)", "clear(max)").refuses(8, "clear(1)", "clear(4)");
        x.gives(0, "clear(5)").gives(0, "clear(6)");
        x.with("tied(1, 1, 3)").refuses(9, "clear(0)").refuses(8, "clear(1)", "clear(2)");
        x.with("tied(1, 5, 1000)", "tied(0, 1, 3)").refuses(9, "clear(0)").with("tied(0, 1, 2)").gives(1, "clear(0)");
        // Nothing to be done: nothing is longer.
        x.gives(0, "clear(0)").gives(2, "part(1, 4)").gives(99, "part(2, 4)").gives(1, "part(3, 4)")
            .gives(99, "part(4, 4)");
        // 9 is ahead of 11 and of 10.
        crowd(6).with("tied(0, 1, 3)").refuses(9, "clear(0)").with("tied(0, 1, 2)").refuses(11, "clear(0)");
        crowd(6, 1, 1, 1, 1).with("tied(15, 1, 3)").refuses(9, "clear(0)").with("tied(15, 1, 2)")
            .refuses(10, "clear(0)");
    }

    /** At most 5 in all: 11 where 5 are not enough. */
    private static void promise28Five() {
        for (int many = 0; many <= 6; many++) {
            Run x = crowd(many).gives(many, "clashes(0)");
            if (many == 6) {
                x.refuses(11, "clear(0)").gives(6, "clashes(0)");
                continue;
            }
            x.gives(many, "clear(0)").gives(0, "clashes(0)");
            for (int i = 0; i < many; i++) {
                x.gives(501, "part(" + (12 + i) + ", 4)").gives(500, "part(" + (12 + many + i) + ", 4)");
            }
            x.gives(1000, "part(4, 4)").gives(1000, "part(5, 4)").gives(0, "clear(0)");
        }
    }

    /**
     * WEIGHT 4 hangs left by four threads of 1,000. One right, X, is as low, by threads of so much (its ROD's) and the
     * rest; one left, B, is one lower. X must come away from both: by 2, or by 1 with B by 1.
     */
    private static Run between(boolean bAhead, int ofRod) {
        Run x = crowd(0);
        for (int turn = 0; turn < 2; turn++) {
            int rod = 12 + 2 * turn;
            x.with("rod(4, 0, false)", "weight(1)");
            if (bAhead == (turn == 0)) {
                x.with(hang(rod, 3, 1, 500), hang(rod + 1, rod, 0, 501));
            } else {
                x.with(hang(rod, 8, 0, ofRod), hang(rod + 1, rod, 0, 1000 - ofRod));
            }
        }
        return x.gives(1, "clashes(0)");
    }

    private static void lengthened(Run x, int... threads) {
        x.gives(0, "clashes(0)");
        for (int i = 0; i < threads.length; i++) {
            x.gives(threads[i], "part(" + (12 + i) + ", 4)");
        }
    }

    /** The PARTS by number: that with the greater number for the first PART in which two differ. */
    private static void promise28First() {
        // X's ROD is ahead of all: by 2 is ahead of by 1.
        Run x = between(false, 500).gives(2, "clear(0)");
        lengthened(x, 502, 500, 500, 501);
        // B's ROD is ahead: by 1 is ahead of by 0, and by 2 does not do.
        x = between(true, 500).gives(2, "clear(0)");
        lengthened(x, 501, 501, 501, 500);
        // One that meets none comes first by number, but does not do: as few in all as can be.
        x = crowd(1, 7).gives(1, "clear(0)");
        lengthened(x, 7, 501, 500);
    }

    /** Threads above 1,000 are none. */
    private static void promise28Threads() {
        Run x = between(false, 998).gives(2, "clear(0)");
        lengthened(x, 1000, 2, 500, 501);
        x = between(false, 999).gives(2, "clear(0)");
        lengthened(x, 1000, 2, 500, 501);
        x = between(true, 999).gives(2, "clear(0)");
        lengthened(x, 501, 501, 1000, 1);
        // Where no thread on the way of either can be longer, none does, be it one that meets or all.
        x = crowd(0).with("weight(1)", hang(12, 8, 0, 1000)).gives(1, "clashes(0)").refuses(11, "clear(0)");
        x.with("take(12)", "rod(4, 0, false)", hang(13, 8, 0, 1), hang(12, 13, 0, 999)).gives(1, "clear(0)");
        lengthened(x, 1000, 1);
        x.with("thread(12, 1000)", "take(13)", "weight(1)", hang(14, 8, 1, 1000)).refuses(11, "clear(0)");
    }

    /** The threads of PARTS of the MOBILE (those that hang): of each KIND, from PART 0 on, and of no other MOBILE. */
    private static void promise28WhoseThreads() {
        // WEIGHT 0 of the two that meet has the least number; then ROD 0 above it has.
        Run x = new Run(28).with("weight(1)", "weight(1)", "rod(10, 0, false)", "rod(10, 0, false)", "rod(4, 0, false)",
            hang(0, 2, 0, 1), hang(1, 3, 0, 1), hang(2, 4, 0, 1), hang(3, 4, 1, 1)).gives(1, "clear(4)");
        x.gives(2, "part(0, 4)").gives(1, "part(1, 4)").gives(1, "part(2, 4)").gives(1, "part(3, 4)");
        Run y = new Run(28).with("rod(10, 0, false)", "weight(1)", "rod(10, 0, false)", "weight(1)", "rod(4, 0, false)",
            hang(1, 0, 0, 1), hang(3, 2, 0, 1), hang(0, 4, 0, 1), hang(2, 4, 1, 1)).gives(1, "clear(4)");
        y.gives(2, "part(0, 4)").gives(1, "part(1, 4)").gives(1, "part(2, 4)").gives(1, "part(3, 4)");
        // Two that ever MEET: SPENT with 16 other threads, be the last a PLATE's or a WEIGHT's; not with 15, even if
        // the last is in another MOBILE.
        String[] last = {"plate(0, 3)", "weight(1)", "rod(2, 0, true)"};
        for (String made : last) {
            Run z = crowd(0, threads(15, 1)).row(0, 0, 0, 1, 0, 0, 1).with("weight(1)", hang(27, 8, 0, 1000), made);
            z.refuses(11, "clear(0)").with(hang(28, 26, 0, 1)).refuses(10, "clear(0)");
            z.with("take(28)", "rod(4, 0, false)", hang(28, 29, 0, 1)).refuses(11, "clear(0)");
            // Each call has TRIES of its own.
            z.refuses(11, "clear(0)").gives(0, "clear(29)");
        }
        // PART 0 hangs elsewhere.
        Run w = new Run(28).with("weight(1)", "rod(2, 0, false)", "rod(2, 0, false)", "rod(8, 0, false)",
            "rod(8, 0, false)", "weight(1)", "weight(1)", hang(0, 1, 0, 1), hang(3, 2, 0, 7), hang(4, 2, 1, 7),
            hang(5, 3, 0, 1), hang(6, 4, 0, 1));
        w.gives(1, "clear(2)").gives(1, "part(0, 4)").gives(8, "part(3, 4)").gives(7, "part(4, 4)");
    }

    /** How many choices there are of 0 to so many in all, with so much room in each thread. */
    private static int choices(int most, int[] room, int from) {
        if (from == room.length) {
            return 1;
        }
        int found = 0;
        for (int n = 0; n <= most && n <= room[from]; n++) {
            found += choices(most - n, room, from + 1);
        }
        return found;
    }

    /** So many threads of one length, so many of another one, and so on. */
    private static int[] threads(int... manyOfEach) {
        int many = 0;
        for (int i = 0; i < manyOfEach.length; i += 2) {
            many += manyOfEach[i];
        }
        int[] threads = new int[many];
        int at = 0;
        for (int i = 0; i < manyOfEach.length; i += 2) {
            for (int n = 0; n < manyOfEach[i]; n++) {
                threads[at] = manyOfEach[i + 1];
                at++;
            }
        }
        return threads;
    }

    private static int choices(int most, int[] threads) {
        int[] room = new int[threads.length];
        for (int i = 0; i < room.length; i++) {
            room[i] = 1000 - threads[i];
        }
        return choices(most, room, 0);
    }

    /** Two WEIGHTS that ever MEET: 11 if the other threads have 20,000 choices, 10 if they have one more. */
    private static void promise28SpentBeforeNone() {
        for (int more = 0; more < 2; more++) {
            int[] others = threads(2, 998, 2, 997, 9 - more, 996, 3 + more, 1);
            Due.is("promise 28: choices", choices(5, others), 20000 + more);
            Run x = crowd(0, others).with("weight(1)", hang(12 + others.length, 8, 0, 1000)).gives(1, "clashes(0)");
            x.refuses(more == 0 ? 11 : 10, "clear(0)");
        }
        // 15 threads with room for all have 15,504 choices, 16 have 20,349.
        for (int many = 15; many <= 16; many++) {
            int[] others = threads(many, 1);
            Due.is("promise 28: choices", choices(5, others), many == 15 ? 15504 : 20349);
            Run x = crowd(0, others).with("weight(1)", hang(12 + many, 8, 0, 1000));
            x.refuses(many == 15 ? 11 : 10, "clear(0)");
        }
    }

    /** What does is the 20,000th TRY: found; the 20,001st: SPENT. */
    private static void promise28SpentBeforeFound() {
        for (int more = 0; more < 2; more++) {
            int[] others = threads(10, 999, 1, 997 - more, 6, 1);
            // All choices but those behind the one that does, which is 1 for each of the four RODS.
            int behind = 0;
            for (int rods = 0; rods < 4; rods++) {
                // So many RODS have their 1, the next one has none: what is left goes to those behind it.
                int[] last = threads(8 - rods - 1, 500);
                behind += choices(4 - rods, last) - choices(3 - rods, last);
            }
            int[] all = threads(10, 999, 1, 997 - more, 6, 1, 8, 500);
            Due.is("promise 28: TRIES", choices(4, all) - behind, 20000 + more);
            Run x = crowd(4, others).gives(4, "clashes(0)");
            if (more == 0) {
                x.gives(4, "clear(0)").gives(0, "clashes(0)").gives(501, "part(29, 4)").gives(501, "part(32, 4)");
                x.gives(500, "part(33, 4)").gives(999, "part(12, 4)").gives(997, "part(22, 4)").gives(1, "part(28, 4)");
            } else {
                x.refuses(10, "clear(0)").gives(4, "clashes(0)");
            }
        }
    }
}
