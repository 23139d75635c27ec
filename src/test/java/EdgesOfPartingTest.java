/** The boundary cases of promises 29 to 36, a method for each promise. */
public final class EdgesOfPartingTest {
    public static void main(String[] args) {
        promise29Order();
        promise29Numbers();
        promise29Shape();
        promise29Places();
        promise29Ways();
        promise29Again();
        promise30Order();
        promise30First();
        promise31Order();
        promise31KOrMore();
        promise31AsTheyAreTied();
        promise31Kept();
        promise32();
        promise33();
        promise34Order();
        promise34WeightsAndPlates();
        promise34Rods();
        promise34TheOtherWayRound();
        promise35();
        promise35Refused();
        sixHundredBytes();
        promise36();
        lastCall();
        Due.end();
    }

    private static String hang(int part, int rod, int end, int thread) {
        return "hang(" + part + ", " + rod + ", " + end + ", " + thread + ")";
    }

    /**
     * ROD 0 of 2 alone is a SHAPE, ROD 1 has HEFT, ROD 2 hangs on it, WEIGHT 3, PLATE 4; TRAY 0 can be parted, TRAY 1
     * can't, the others are MISSING.
     */
    private static Run workshop(int promise) {
        return new Run(promise).row(1, 0, 0, 4, 0, 0, 4).row(0, 1, 1, 2).with("rod(2, 0, false)", "rod(2, 1, false)",
            "rod(2, 1, false)", "weight(1)", "plate(1, 3)", hang(2, 1, 0, 1));
    }

    /** 1; 2; 3; 5: no ROD; 7: of the TRAY; 8: it hangs; 9: asked in this order. */
    private static void promise29Order() {
        Run x = workshop(29);
        x.refuses(1, "ways(0, -1)", "ways(0, 6)", "ways(0, min)", "ways(0, max)", "ways(9, 6)", "ways(3, -1)");
        x.refuses(2, "ways(-1, 0)", "ways(5, 0)", "ways(min, 0)", "ways(max, 0)", "ways(5, 1)", "ways(5, 2)");
        x.refuses(3, "ways(0, 2)", "ways(0, 5)", "ways(3, 2)", "ways(2, 5)");
        x.refuses(5, "ways(3, 0)", "ways(4, 0)", "ways(3, 1)");
        x.refuses(7, "ways(0, 1)", "ways(1, 1)", "ways(2, 1)");
        x.refuses(8, "ways(2, 0)").refuses(9, "ways(1, 0)");
        x.gives(2, "ways(0, 0)");
        // A WEIGHT that hangs is no ROD first of all.
        x.with(hang(3, 2, 0, 1)).refuses(5, "ways(3, 0)");
    }

    /** A TRAY's numbers: 2 to 10, each from 1 to 1,000,000. */
    private static void promise29Numbers() {
        Run x = new Run(29).with("rod(2, 0, false)");
        int[] due = {-1, -1, 1, 0, 1, 0, 1, 0, 1, 0, 1, -1};
        for (int many = 0; many < due.length; many++) {
            long[] row = new long[many];
            java.util.Arrays.fill(row, 1);
            x.row(0, row);
            if (due[many] < 0) {
                x.refuses(7, "ways(0, 0)");
            } else {
                x.gives(due[many], "ways(0, 0)");
            }
        }
        x.row(0, 1, 1, 1, 1, 1, 1, 1, 1, 1, 1, 1, 1, 1, 1, 1, 1).refuses(7, "ways(0, 0)");
        for (int at = 0; at < 3; at++) {
            for (long no : new long[] {0, -1, 1000001, (1L << 32) + 2, Long.MAX_VALUE, Long.MIN_VALUE}) {
                long[] row = {2, 2, 2};
                row[at] = no;
                new Run(29).with("rod(3, 0, false)", "tied(0, 1, 3)").row(0, row).refuses(7, "ways(0, 0)");
            }
        }
        new Run(29).with("rod(3, 0, false)", "tied(0, 1, 3)").row(0, 2, 2, 2).gives(1, "ways(0, 0)");
        x.row(0, 1000000, 1000000).gives(1, "ways(0, 0)").row(0, 1, 1).gives(1, "ways(0, 0)");
        x.row(0, 1, 1000000, 999999).gives(2, "ways(0, 0)").row(0, 1, 1000000, 1000000).gives(0, "ways(0, 0)");
        long[] most = new long[10];
        java.util.Arrays.fill(most, 1000000);
        x.row(0, most).gives(1, "ways(0, 0)");
        // Of 16 and 32 bits too.
        x.with("tray(2, 0, 2)", "write(2, 0, 65537)", "write(2, 1, 1)").gives(1, "ways(0, 2)");
        x.with("tray(2, 1, 2)", "write(2, 0, 65537)", "write(2, 1, 1)").gives(0, "ways(0, 2)");
    }

    /** 9: a MOBILE whose RODS all have HEFT 0 and WHOLE ARMS; what hangs otherwise are RODS. */
    private static void promise29Shape() {
        // ROD 0 with SHORT 1 right; HEFT of 1 in ROD 2; WEIGHT 3, PLATE 4.
        Run x = new Run(29).row(1, 0, 0, 1, 0, 0, 1).row(0, 2, 1, 1).with("rod(4, 0, false)", "rod(2, 0, true)",
            "rod(2, 1, false)", "weight(1)", "plate(1, 3)", hang(1, 0, 1, 1));
        x.gives(1, "ways(0, 0)").refuses(9, "ways(2, 0)");
        x.with(hang(2, 0, 0, 1)).refuses(9, "ways(0, 0)").with("take(2)").gives(1, "ways(0, 0)");
        x.with(hang(3, 0, 0, 1)).refuses(9, "ways(0, 0)").with("take(3)", hang(4, 1, 0, 1)).refuses(9, "ways(0, 0)");
        x.with("take(4)", "tied(0, 1, 3)").refuses(9, "ways(0, 0)").with("tied(0, 1, 4)").gives(0, "ways(0, 0)");
        x.with("tied(0, 2, 4)", "tied(1, 1, 3)").refuses(9, "ways(0, 0)").with("tied(1, 3, 6)").gives(1, "ways(0, 0)");
        // A SHORT as TOP is a ROD too; the threads have no part in it.
        x.with("thread(1, 1000)").gives(1, "ways(0, 0)").with("take(1)").gives(2, "ways(1, 0)").gives(2, "ways(0, 0)");
    }

    /** Its FREE ends (2 to 8) are PLACES. */
    private static void promise29Places() {
        // RODS of 2, each at the right end of the one before: half of all at the first PLACE, and so on.
        Run x = new Run(29).row(0, 64, 32, 16, 8, 4, 2, 1, 1).row(1, 1, 1);
        for (int i = 0; i < 8; i++) {
            x.with("rod(2, 0, false)");
            if (i > 0) {
                x.with(hang(i, i - 1, 1, 1));
            }
            if (i < 7) {
                // None of the PLACES without a number: 2 numbers are too few for more than 2. Up to 7 PLACES the last
                // two have one number and all that follow it, in one order or the other.
                x.gives(i == 0 ? 1 : 0, "ways(0, 1)").gives(i < 6 ? 2 : 1, "ways(0, 0)");
            }
        }
        x.refuses(9, "ways(0, 0)", "ways(0, 1)");
        x.with("take(7)").gives(1, "ways(0, 0)").eachGives("fill(0, 0, #)", 0, 1, 2, 3, 4, 5, 6, 7);
        x.gives(1, "ways(7, 1)");
    }

    /** So that all RODS are LEVEL; two are one WAY, if each number of one value is as often at each PLACE. */
    private static void promise29Ways() {
        // 999 to 1: the nearest to an end that WHOLE ARMS can be.
        Run x = new Run(29).with("rod(1000, 0, false)", "tied(0, 1, 1000)").row(0, 999, 1).gives(1, "ways(0, 0)");
        x.row(0, 1, 999).gives(1, "ways(0, 0)").row(0, 1, 998).gives(0, "ways(0, 0)").row(0, 2, 999)
            .gives(0, "ways(0, 0)");
        x.row(0, 999000, 1000).gives(1, "ways(0, 0)").row(0, 998999, 1000, 1).gives(1, "ways(0, 0)");
        // Like numbers that change PLACES are one WAY; unlike ones are not.
        Run y = new Run(29).with("rod(2, 0, false)").row(0, 1, 1).gives(1, "ways(0, 0)").row(0, 1, 2)
            .gives(0, "ways(0, 0)");
        y.row(0, 1, 2, 3).gives(2, "ways(0, 0)").row(0, 1, 1, 2).gives(2, "ways(0, 0)");
        y.row(0, 1, 1, 2, 2).gives(1, "ways(0, 0)").row(0, 1, 2, 3, 4).gives(2, "ways(0, 0)");
        // 10 numbers on 8 PLACES of 2 each: the four of 1 fill any two of them.
        Run z = eightPlaces(29).row(0, 1, 1, 1, 1, 2, 2, 2, 2, 2, 2).gives(28, "ways(0, 0)");
        z.eachGives("fill(0, 0, #)", 0, 0, 1, 1, 2, 3, 4, 5, 6, 7);
        z.row(0, 2, 1, 2, 1, 2, 1, 2, 1, 2, 2).gives(28, "ways(0, 0)");
        z.eachGives("fill(0, 0, #)", 0, 1, 2, 1, 3, 4, 5, 4, 6, 7);
        z.row(0, 2, 2, 2, 2, 2, 2, 2, 2).gives(1, "ways(0, 0)").row(0, 2, 2, 2, 2, 2, 2, 2).gives(0, "ways(0, 0)");
    }

    /** Each call looks anew: 9 and 3 of 12, then 8, 1 and 3 with the same numbers, and back. */
    private static void promise29Again() {
        Run x = new Run(29).row(0, 1, 2, 3, 6).with("rod(4, 0, false)", "rod(3, 0, false)", "rod(4, 0, false)",
            "tied(0, 1, 4)", "tied(1, 1, 3)", "tied(2, 3, 4)", hang(2, 1, 1, 1));
        x.gives(2, "ways(0, 0)").gives(1, "ways(1, 0)").gives(2, "ways(0, 0)").gives(1, "ways(1, 0)");
        x.eachGives("fill(1, 0, #)", 1, 0, 2, 0).eachGives("fill(0, 0, #)", 0, 0, 1, 0);
        x.row(0, 2, 1).gives(0, "ways(0, 0)").row(0, 3, 1).gives(1, "ways(0, 0)").gives(0, "ways(1, 0)");
    }

    /** RODS of 2 with two RODS each, down to 8 FREE ends. */
    private static Run eightPlaces(int promise) {
        Run x = new Run(promise);
        for (int i = 0; i < 7; i++) {
            x.with("rod(2, 0, false)");
            if (i > 0) {
                x.with(hang(i, (i - 1) / 2, 1 - i % 2, 1));
            }
        }
        return x;
    }

    /** As ways(); 4: k; 11: there is none. */
    private static void promise30Order() {
        Run x = workshop(30);
        x.refuses(1, "fill(0, -1, 0)", "fill(0, 6, 0)", "fill(0, max, 0)", "fill(9, 6, -1)", "fill(3, -1, 3)");
        x.refuses(2, "fill(-1, 0, 0)", "fill(5, 0, 0)", "fill(min, 0, 0)", "fill(5, 2, -1)", "fill(5, 0, 3)");
        x.refuses(3, "fill(0, 2, 0)", "fill(0, 5, -1)", "fill(3, 2, 16)");
        x.refuses(4, "fill(0, 0, -1)", "fill(0, 0, 3)", "fill(0, 0, min)", "fill(0, 0, max)");
        // k is ahead of no ROD, of the TRAY's numbers, of hanging and of no SHAPE.
        x.refuses(4, "fill(3, 0, 3)", "fill(0, 1, 6)", "fill(2, 1, -1)", "fill(2, 0, 3)", "fill(1, 0, -1)");
        x.refuses(5, "fill(3, 0, 0)", "fill(4, 0, 2)", "fill(3, 1, 5)").refuses(7, "fill(0, 1, 0)", "fill(2, 1, 5)");
        x.refuses(8, "fill(2, 0, 0)", "fill(2, 0, 2)").refuses(9, "fill(1, 0, 0)", "fill(1, 0, 2)");
        x.eachGives("fill(0, 0, #)", 0, 0, 1).refuses(4, "fill(0, 0, 3)");
        // None: no SHAPE and a wrong k are ahead of that.
        x.with("write(0, 0, 2)").refuses(11, "fill(0, 0, 0)", "fill(0, 0, 1)", "fill(0, 0, 2)").gives(0, "ways(0, 0)");
        x.refuses(4, "fill(0, 0, 3)", "fill(0, 0, -1)").refuses(9, "fill(1, 0, 0)").refuses(8, "fill(2, 0, 0)");
        x.with("tray(0, 2, 0)").refuses(4, "fill(0, 0, 0)").refuses(7, "ways(0, 0)");
        x.row(0, 1).refuses(7, "fill(0, 0, 0)").refuses(4, "fill(0, 0, 1)");
        x.row(0, 1, 1, 1, 1, 1, 1, 1, 1, 1, 1).gives(1, "fill(0, 0, 9)").refuses(4, "fill(0, 0, 10)");
        x.row(0, 1, 1, 1, 1, 1, 1, 1, 1, 1, 1, 1).refuses(7, "fill(0, 0, 10)").refuses(4, "fill(0, 0, 11)");
        x.row(0, 1000000, 1000000).gives(0, "fill(0, 0, 0)").with("write(0, 1, 1000001)").refuses(7, "fill(0, 0, 0)");
    }

    /** The first: that which has the first number in which they differ at the lesser PLACE. */
    private static void promise30First() {
        Run x = new Run(30).with("rod(2, 0, false)").row(0, 1, 2, 3).eachGives("fill(0, 0, #)", 0, 0, 1);
        x.row(0, 3, 2, 1).eachGives("fill(0, 0, #)", 0, 1, 1).row(0, 2, 3, 1).eachGives("fill(0, 0, #)", 0, 1, 0);
        // The least PLACE with which the rest can still do: 2 and 3 would have no 1 to go with them.
        x.row(0, 2, 3, 4, 3).eachGives("fill(0, 0, #)", 0, 1, 0, 1);
        x.row(0, 1, 5, 1, 2, 3, 4, 2).eachGives("fill(0, 0, #)", 0, 0, 0, 0, 1, 1, 1);
        // Like numbers: the first of them at the lesser PLACE.
        x.row(0, 3, 1, 2, 1, 2, 3).eachGives("fill(0, 0, #)", 0, 0, 0, 1, 1, 1);
        // All of the left side first: ROD 0 bears ROD 1 left and ROD 2 right, ROD 1 bears ROD 3 left.
        Run y = new Run(30).with("rod(2, 0, false)", "rod(2, 0, false)", "rod(2, 0, false)", "rod(2, 0, false)",
            hang(2, 0, 1, 1), hang(1, 0, 0, 1), hang(3, 1, 0, 1));
        y.row(0, 2, 2, 4, 4, 4).gives(1, "ways(0, 0)").eachGives("fill(0, 0, #)", 0, 1, 2, 3, 4);
        y.with("swap(0)").eachGives("fill(0, 0, #)", 2, 3, 0, 1, 4);
        y.with("swap(0)", "swap(1)").eachGives("fill(0, 0, #)", 1, 2, 0, 3, 4);
        y.row(0, 4, 2, 4, 2, 4).eachGives("fill(0, 0, #)", 0, 1, 3, 2, 4);
    }

    /** So many WEIGHTS of 1 on RODS one below the other, all LEVEL; the lowest were made first, the TOP last. */
    private static Run weights(int promise, int many) {
        Run x = new Run(promise).with("weight(1)", "weight(1)", "rod(10, 0, false)");
        x.with(hang(0, 2, 0, 1), hang(1, 2, 1, 1));
        for (int i = 2; i < many; i++) {
            x.with("weight(1)", "rod(10, 0, false)", hang(2 * i - 2, 2 * i, 0, 1), hang(2 * i - 1, 2 * i, 1, 1));
        }
        int top = 2 * many - 2;
        return x.gives(many - 1, "all(" + top + ")").gives(many, "bears(" + top + ")");
    }

    /** 2; 5: no ROD; 7; 8; 9: a ROD is not LEVEL; 10: more than 14 WEIGHTS; 11: asked in this order. */
    private static void promise31Order() {
        // ROD 2 bears WEIGHTS 0 and 1, ROD 4 bears ROD 2 and WEIGHT 3.
        Run x = weights(31, 3).row(0, 0, 0, 1, 0, 0, 1).with("plate(0, 3)");
        x.refuses(2, "fewest(-1, 0)", "fewest(6, 0)", "fewest(min, 0)", "fewest(max, 0)", "fewest(6, 15)");
        x.refuses(5, "fewest(0, 0)", "fewest(5, 0)", "fewest(3, -1)", "fewest(5, 15)");
        x.refuses(7, "fewest(4, -1)", "fewest(4, 15)", "fewest(4, min)", "fewest(4, max)", "fewest(2, 15)");
        x.refuses(8, "fewest(2, 0)", "fewest(2, 14)").refuses(11, "fewest(4, 4)", "fewest(4, 14)");
        // One that is not LEVEL below, or the TOP: 8 is ahead, 11 behind it.
        x.with("tied(2, 1, 3)").refuses(9, "fewest(4, 0)", "fewest(4, 1)", "fewest(4, 14)").refuses(8, "fewest(2, 0)");
        x.refuses(7, "fewest(4, 15)").with("tied(2, 1, 2)").gives(0, "fewest(4, 0)");
        x.with("tied(4, 1, 2)").refuses(9, "fewest(4, 0)").with("tied(4, 2, 6)").gives(3, "fewest(4, 3)");
        Run most = weights(31, 14).gives(0, "fewest(26, 0)").gives(14, "fewest(26, 1)").gives(14, "fewest(26, 14)");
        most.tells(0, "suspect(0)").tells(1, "suspect(1)").tells(3, "suspect(2)").tells(25, "suspect(13)");
        most.tells(-1, "suspect(14)").refuses(7, "fewest(26, 15)");
        Run beyond = weights(31, 15).refuses(10, "fewest(28, 0)", "fewest(28, 1)", "fewest(28, 14)");
        beyond.refuses(7, "fewest(28, 15)", "fewest(28, -1)").refuses(8, "fewest(26, 0)");
        beyond.with("tied(2, 1, 3)").refuses(9, "fewest(28, 0)", "fewest(28, 14)").with("tied(2, 1, 2)");
        // A PLATE in the place of one of them is no WEIGHT.
        beyond.row(0, 0, 0, 1, 0, 0, 1).with("plate(0, 3)", "take(0)", hang(29, 2, 0, 1)).gives(0, "fewest(28, 0)");
        beyond.refuses(11, "fewest(28, 1)", "fewest(28, 14)");
    }

    /** The least number, k or more, whose taking away leaves all its RODS LEVEL (ends may become FREE). */
    private static void promise31KOrMore() {
        Run x = new Run(31).with("rod(4, 0, true)", "weight(5)", "weight(5)").gives(0, "fewest(0, 0)");
        x.refuses(11, "fewest(0, 1)", "fewest(0, 14)");
        x.with(hang(1, 0, 0, 1), hang(2, 0, 1, 1)).gives(0, "fewest(0, 0)").gives(2, "fewest(0, 1)")
            .gives(2, "fewest(0, 2)");
        x.refuses(11, "fewest(0, 3)", "fewest(0, 14)");
        // Two pairs: one pair alone would leave the upper ROD not LEVEL.
        Run y = new Run(31).with("rod(4, 0, false)", "rod(4, 0, false)", "rod(4, 0, false)", "weight(1)", "weight(1)",
            "weight(1)", "weight(1)", hang(1, 0, 0, 1), hang(2, 0, 1, 1), hang(3, 1, 0, 1), hang(4, 1, 1, 1),
            hang(5, 2, 0, 1), hang(6, 2, 1, 1));
        y.gives(0, "fewest(0, 0)").gives(4, "fewest(0, 1)").gives(4, "fewest(0, 3)").gives(4, "fewest(0, 4)");
        y.refuses(11, "fewest(0, 5)").tells(3, "suspect(0)").tells(6, "suspect(3)").tells(-1, "suspect(4)");
    }

    private static void promise31AsTheyAreTied() {
        // Its own weight is left: LEVEL without the WEIGHTS just if it is TIED in its middle.
        Run x = new Run(31).with("rod(10, 2, false)", "weight(5)", "weight(5)", "weight(6)", hang(1, 0, 0, 1),
            hang(2, 0, 1, 1)).gives(2, "fewest(0, 1)");
        x.with("take(2)", hang(3, 0, 1, 1)).refuses(9, "fewest(0, 1)").with("all(0)")
            .refuses(11, "fewest(0, 1)", "fewest(0, 2)");
        x.gives(0, "fewest(0, 0)");
        // A WEIGHT alone on a ROD with HEFT: without it, the ROD is not LEVEL where it is TIED.
        int[][] alone = {{2, 2, 2}, {3, 1, 3}, {2, 1, 1}, {1000, 1000, 1000000}};
        for (int[] one : alone) {
            Run w = new Run(31).with("rod(" + one[0] + ", " + one[1] + ", false)", "weight(" + one[2] + ")");
            w.with(hang(1, 0, 0, 1));
            w.refuses(9, "fewest(0, 1)").with("all(0)").gives(0, "fewest(0, 0)").refuses(11, "fewest(0, 1)");
            w.with("swap(0)", "all(0)").refuses(11, "fewest(0, 1)");
        }
        // A PLATE, or a ROD with HEFT, over against a WEIGHT stays.
        Run y = new Run(31).row(0, 0, 0, 2, 0, 0, 2).with("rod(4, 0, false)", "plate(0, 3)", "weight(4)",
            "rod(2, 2, false)", hang(1, 0, 0, 1), hang(2, 0, 1, 1));
        y.gives(0, "fewest(0, 0)").refuses(11, "fewest(0, 1)");
        y.with("take(1)", hang(3, 0, 0, 1)).gives(0, "fewest(0, 0)").refuses(11, "fewest(0, 1)");
        // A bare ROD over against a FREE end, without HEFT: nothing to be taken.
        Run z = new Run(31).with("rod(4, 0, false)", "rod(3, 0, false)", hang(1, 0, 0, 1)).gives(0, "fewest(0, 0)");
        z.refuses(11, "fewest(0, 1)");
    }

    /** They are kept, till the next such that is found, as numbers of PARTS. */
    private static void promise31Kept() {
        Run x = weights(31, 3).with("weight(7)").gives(3, "fewest(4, 2)").tells(0, "suspect(0)").tells(3, "suspect(2)");
        x.refuses(2, "fewest(9, 0)").refuses(5, "fewest(0, 0)").refuses(7, "fewest(4, 15)").refuses(8, "fewest(2, 0)");
        x.refuses(11, "fewest(4, 4)").with("tied(4, 1, 2)").refuses(9, "fewest(4, 0)").tells(1, "suspect(1)");
        // Whatever is hung and taken; a smaller set that is found takes their place, and so does one of none.
        x.with("take(3)", "take(2)").gives(0, "wrong(2)").tells(3, "suspect(2)");
        x.gives(2, "fewest(2, 1)").tells(0, "suspect(0)").tells(1, "suspect(1)").tells(-1, "suspect(2)");
        x.gives(0, "fewest(4, 0)").tells(-1, "suspect(0)").gives(0, "cut()");
    }

    /** The i-th WEIGHT, by number. NONE if there is none such. It has no STATUS. */
    private static void promise32() {
        // WEIGHT 0 is of another MOBILE, a TOP or hanging.
        Run y = new Run(32).with("weight(1)", "rod(2, 0, false)", "weight(1)", "weight(1)", "rod(2, 0, false)",
            hang(2, 1, 0, 1), hang(3, 1, 1, 1)).gives(2, "fewest(1, 1)").tells(2, "suspect(0)").tells(3, "suspect(1)");
        y.with(hang(0, 4, 0, 1)).gives(2, "fewest(1, 2)").tells(2, "suspect(0)").tells(-1, "suspect(2)")
            .refuses(11, "fewest(1, 3)");
        Run x = new Run(32).tells(-1, "suspect(0)").tells(-1, "suspect(-1)").tells(-1, "suspect(max)");
        x.with("weight(1)", "rod(4, 0, false)", "weight(1)", hang(0, 1, 1, 1), hang(2, 1, 0, 1))
            .gives(2, "fewest(1, 1)");
        // By number, not from the left to the right.
        x.tells(0, "suspect(0)").tells(2, "suspect(1)").tells(-1, "suspect(2)").tells(-1, "suspect(-1)");
        x.tells(-1, "suspect(13)").tells(-1, "suspect(14)").tells(-1, "suspect(min)").tells(-1, "suspect(max)");
        x.refuses(2, "part(3, 0)").tells(2, "suspect(1)").tells(-1, "suspect(2)");
    }

    /** Those kept by fewest() that hang are taken off: how many. */
    private static void promise33() {
        Run x = new Run(33).gives(0, "cut()").with("rod(4, 0, false)", "weight(5)", "weight(5)", "rod(4, 0, false)",
            hang(1, 0, 0, 9), hang(2, 0, 1, 1)).gives(0, "cut()").gives(0, "part(1, 2)");
        x.gives(2, "fewest(0, 1)").refuses(1, "read(6, 0)").gives(2, "cut()");
        x.eachGives("part(1, #)", 1, 5, -1, -1, 0, 0, 1).eachGives("rodAt(0, #)", 4, 0, 1, 2, -1, -1)
            .gives(0, "wrong(0)");
        // None hangs; one hangs again, elsewhere; both do.
        x.gives(0, "cut()").tells(1, "suspect(0)").with(hang(2, 3, 1, 1)).gives(1, "cut()").gives(-1, "rodAt(3, 5)");
        x.with(hang(2, 3, 0, 1), hang(1, 0, 0, 1)).gives(2, "cut()").gives(0, "cut()");
        // Those that are not kept stay.
        x.with("weight(5)", hang(4, 3, 0, 1), hang(1, 3, 1, 1)).gives(1, "cut()").gives(4, "rodAt(3, 4)");
        Run most = weights(33, 14).gives(14, "fewest(26, 14)").gives(14, "cut()").gives(0, "bears(26)")
            .gives(0, "cut()");
        most.gives(0, "wrong(26)").gives(24, "rodAt(26, 4)").gives(-1, "rodAt(26, 5)");
    }

    /** 2; 8: asked in this order. */
    private static void promise34Order() {
        Run x = new Run(34).with("rod(4, 0, false)", "weight(1)", "weight(1)", hang(2, 0, 0, 1));
        x.refuses(2, "same(-1, 0)", "same(0, -1)", "same(3, 0)", "same(0, 3)", "same(min, 0)", "same(0, max)");
        x.refuses(2, "same(2, 3)", "same(3, 2)", "same(3, 3)");
        x.refuses(8, "same(2, 0)", "same(0, 2)", "same(2, 2)", "same(1, 2)", "same(2, 1)");
        x.gives(1, "same(0, 0)").gives(1, "same(1, 1)").gives(0, "same(0, 1)").gives(0, "same(1, 0)");
        x.with("take(2)").gives(1, "same(1, 2)").gives(1, "same(2, 1)");
    }

    /** WEIGHTS of one weight; PLATES of one weight. */
    private static void promise34WeightsAndPlates() {
        Run x = new Run(34).row(0, 0, 0, 2, 0, 0, 2).row(1, 9, 9, 5, 9, 9, 10).row(2, 0, 0, 5, 0, 0, 1);
        x.with("weight(4)", "weight(4)", "weight(5)", "plate(0, 3)", "plate(1, 3)", "plate(2, 3)", "rod(4, 1, false)",
            "rod(2, 2, false)");
        x.gives(1, "same(0, 1)").gives(0, "same(0, 2)").gives(1, "same(3, 4)").gives(0, "same(3, 5)");
        x.gives(0, "same(0, 3)").gives(0, "same(3, 0)").gives(0, "same(6, 0)").gives(0, "same(6, 3)")
            .gives(0, "same(6, 7)");
        x.with("weight(1)", "weight(1000000)", "weight(999999)").gives(0, "same(9, 10)").gives(1, "same(9, 9)");
    }

    /**
     * RODS 0 and 1 of 12 with HEFT 1, TIED at 1 / 3; WEIGHTS of 1 left by 3 and of 2 right by 4, which are PARTS 2 and
     * 3 on the one, 4 and 5 on the other.
     */
    private static Run twins() {
        return new Run(34).with("rod(12, 1, false)", "rod(12, 1, false)", "weight(1)", "weight(2)", "weight(1)",
            "weight(2)", "tied(0, 1, 3)", "tied(1, 1, 3)", hang(2, 0, 0, 3), hang(3, 0, 1, 4), hang(4, 1, 0, 3),
            hang(5, 1, 1, 4));
    }

    /** RODS of one KIND, LENGTH and HEFT, TIED at one place, with SAME things left and right by like threads. */
    private static void promise34Rods() {
        Run x = twins().gives(1, "same(0, 1)").gives(1, "same(1, 0)");
        x.with("tied(1, 333333, 999999)").gives(1, "same(0, 1)").with("tied(1, 333333, 1000000)")
            .gives(0, "same(0, 1)");
        x.with("tied(1, 333334, 1000000)").gives(0, "same(1, 0)").with("tied(1, 2, 6)").gives(1, "same(0, 1)");
        // Places that would be one in 32 bits: 8,192 times 524,288 is 1 << 32.
        x.with("tied(0, 1, 524288)", "tied(1, 8193, 524288)").gives(0, "same(0, 1)").gives(0, "same(1, 0)");
        x.with("tied(1, 1, 524288)").gives(1, "same(0, 1)").with("tied(0, 1, 3)", "tied(1, 2, 6)");
        for (int part = 4; part <= 5; part++) {
            int thread = part - 1;
            x.with("thread(" + part + ", " + (thread + 1) + ")").gives(0, "same(0, 1)");
            x.with("thread(" + part + ", " + (thread - 1) + ")").gives(0, "same(1, 0)");
            x.with("thread(" + part + ", " + thread + ")").gives(1, "same(0, 1)");
        }
        // FREE on one of them, on both, on both sides of both.
        x.with("take(5)").gives(0, "same(0, 1)").gives(0, "same(1, 0)").with("take(3)").gives(1, "same(0, 1)");
        x.with("take(2)").gives(0, "same(0, 1)").gives(0, "same(1, 0)").with("take(4)").gives(1, "same(0, 1)");
        // Another weight below, by one.
        x.with("weight(3)", hang(3, 0, 0, 1), hang(6, 1, 0, 1)).gives(0, "same(0, 1)");
        x.with("take(6)", hang(5, 1, 0, 1)).gives(1, "same(0, 1)");
        Run y = new Run(34).with("rod(12, 2, false)", "rod(12, 2, true)", "rod(24, 1, false)", "rod(12, 3, false)",
            "rod(12, 2, false)", "rod(13, 2, false)", "rod(12, 2, true)");
        y.gives(0, "same(0, 1)").gives(0, "same(0, 2)").gives(0, "same(0, 3)").gives(1, "same(0, 4)")
            .gives(0, "same(0, 5)");
        y.gives(1, "same(1, 6)").with("rod(4, 0, false)", "rod(5, 0, false)").gives(0, "same(7, 8)");
    }

    /** Or, TIED at q - p of q, the other way round. */
    private static void promise34TheOtherWayRound() {
        Run x = twins().with("swap(1)").gives(0, "same(0, 1)").with("tied(1, 2, 3)").gives(1, "same(0, 1)")
            .gives(1, "same(1, 0)");
        x.with("tied(1, 666666, 999999)").gives(1, "same(0, 1)").with("tied(1, 666667, 1000000)")
            .gives(0, "same(0, 1)");
        x.with("tied(1, 2, 3)", "swap(1)").gives(0, "same(0, 1)");
        // TIED in the middle, both ways do.
        x.with("tied(0, 1, 2)", "tied(1, 500000, 1000000)").gives(1, "same(0, 1)").with("swap(0)")
            .gives(1, "same(0, 1)");
        x.with("thread(2, 4)", "thread(3, 3)").gives(0, "same(0, 1)").gives(0, "same(1, 0)");
        // One ROD below the other: each by itself one way or the other way round.
        Run y = twins().with("rod(12, 1, false)", "rod(12, 1, false)", hang(0, 6, 0, 1), hang(1, 7, 0, 1))
            .gives(1, "same(6, 7)");
        y.with("swap(7)").gives(1, "same(6, 7)").with("swap(1)").gives(0, "same(6, 7)").with("tied(1, 2, 3)")
            .gives(1, "same(6, 7)");
        y.with("tied(7, 1, 3)").gives(0, "same(6, 7)").with("tied(6, 2, 3)").gives(1, "same(6, 7)");
        y.with("swap(6)").gives(0, "same(6, 7)").with("tied(6, 1, 3)").gives(1, "same(7, 6)").with("take(0)")
            .gives(0, "same(6, 7)");
    }

    /** A WEIGHT by its weight, a PLATE by p and its weight, a ROD by its sides and p/q, a side by its thread, or -. */
    private static void promise35() {
        Run x = new Run(35).row(0, 0, 0, 1, 0, 0, 1).row(1, -1000, -1000, 1000, -1000, 1000, 1000, -1000, 1000);
        x.with("weight(1)", "weight(1000000)", "plate(0, 3)", "plate(1, 4)", "rod(2, 0, false)",
            "rod(1000, 1000, true)");
        x.shows(0, "1").shows(1, "1000000").shows(2, "p1").shows(3, "p8000000").shows(4, "(-,1/2,-)")
            .shows(5, "(-,1/2,-)");
        Run y = new Run(35).row(1, -1000, -1000, 1000, -1000, 1000, 1000, -1000, 1000);
        y.with("weight(1000000)", "plate(1, 4)", "rod(2, 0, false)", "rod(1000, 1000, true)",
            "tied(3, 999999, 1000000)", hang(0, 3, 1, 1000));
        y.shows(3, "(-,999999/1000000,1000:1000000)").with("swap(3)").shows(3, "(1000:1000000,999999/1000000,-)");
        y.with(hang(3, 2, 1, 10), hang(1, 2, 0, 1), "tied(2, 10, 20)");
        y.shows(2, "(1:p8000000,10/20,10:(1000:1000000,999999/1000000,-))");
        Run z = new Run(35).with("rod(4, 0, false)", "weight(10)", "weight(100)", hang(1, 0, 0, 9), hang(2, 0, 1, 99));
        z.with("all(0)").shows(0, "(9:10,10/11,99:100)");
    }

    /** 2; 8: and OUT is as it was. */
    private static void promise35Refused() {
        Run x = new Run(35).with("rod(4, 0, false)", "weight(10)", hang(1, 0, 0, 7));
        x.refuses(2, "show(-1)", "show(2)", "show(min)", "show(max)").refuses(8, "show(1)").noBytes("0");
        x.shows(0, "(7:10,1/2,-)").refuses(2, "show(2)", "show(-1)").refuses(8, "show(1)").holds("(7:10,1/2,-)");
        // What is changed is shown by the next show() alone.
        x.with("take(1)").holds("(7:10,1/2,-)").shows(1, "10").holds("10");
    }

    /**
     * 60 RODS one below the other, the first so many by threads of 1,000, the others by 1: 599 bytes, and 3 for each.
     */
    private static Run sixtyRods(int promise, int far) {
        Run x = new Run(promise).with("rod(2, 0, false)");
        for (int i = 1; i < 60; i++) {
            x.with("rod(2, 0, false)", hang(i, i - 1, 1, i <= far ? 1000 : 1));
        }
        return x;
    }

    /** How many bytes (the first 600 are kept); byte k, and none such behind those. */
    private static void sixHundredBytes() {
        for (int promise = 35; promise <= 36; promise++) {
            Run x = sixtyRods(promise, 0).gives(599, "show(0)").tells('(', "out(0)").tells(')', "out(598)")
                .noBytes("599", "600", "-1");
            x.with("thread(1, 10)").noBytes("599").gives(600, "show(0)").tells(')', "out(599)").noBytes("600", "601");
            x.with("thread(1, 100)").gives(601, "show(0)").tells(')', "out(599)").noBytes("600", "601", "602", "max");
            x.refuses(2, "show(60)").refuses(8, "show(59)").tells(')', "out(599)");
            // A shorter one again: of the longer one nothing is left.
            x.with("thread(1, 1)").gives(599, "show(0)").noBytes("599").with("take(1)").gives(9, "show(0)");
            x.tells(')', "out(8)").noBytes("9", "598", "599");
        }
        // The last that is kept is the one that is there, not the text's last one.
        Run x = sixtyRods(35, 21);
        StringBuilder text = new StringBuilder("(-,1/2,");
        for (int i = 1; i < 60; i++) {
            text.append(i <= 21 ? "1000:" : "1:").append("(-,1/2,");
        }
        text.append("-").append(")".repeat(60));
        x.gives(text.length(), "show(0)").gives(599 + 63, "show(0)");
        for (int k = 480; k < 600; k++) {
            x.tells(text.charAt(k), "out(" + k + ")");
        }
        x.noBytes("600", "661", "662");
    }

    /** Byte k of OUT. NoSuchElementException: there is none such. It has no STATUS. */
    private static void promise36() {
        Run x = new Run(36).noBytes("0", "-1", "1", "min", "max", "599", "600");
        x.with("weight(42)", "rod(2, 0, false)").noBytes("0").gives(2, "show(0)").tells('4', "out(0)")
            .tells('2', "out(1)");
        x.noBytes("2", "-1", "min", "max", "600").refuses(1, "read(6, 0)").tells('2', "out(1)").noBytes("2");
        x.gives(9, "show(1)").tells(')', "out(8)").noBytes("9");
        x.gives(2, "show(0)").noBytes("2", "8").tells('2', "out(1)");
    }

    /**
     * An object is used for at most 512 calls: to the last one each is answered, here one that looks far (promise
     * 29).
     */
    private static void lastCall() {
        Run x = eightPlaces(29).row(0, 1, 1, 1, 1, 2, 2, 2, 2, 2, 2);
        while (x.calls() < 511) {
            x.gives(28, "ways(0, 0)");
        }
        Due.is("calls", x.calls() >= 511 && x.calls() <= 512, true);
    }
}
