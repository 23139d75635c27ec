import java.util.NoSuchElementException;

/** Counts and prints the answers that are not the ones due. */
final class Due {
    private static int asked = 0;
    private static int wrong = 0;

    private Due() {
    }

    static void is(String call, long got, long want) {
        asked++;
        if (got != want) {
            wrong++;
            System.out.println(call + " answered " + got + ", due is " + want);
        }
    }

    static void is(String call, boolean got, boolean want) {
        is(call, got ? 1 : 0, want ? 1 : 0);
    }

    /** The call was refused: NONE, and the STATUS that is due. */
    static void none(MobileMaker x, String call, long got, int status) {
        is(call, got, MobileMaker.NONE);
        is(call + " STATUS", x.status(), status);
    }

    /** The call was refused: false, and the STATUS that is due. */
    static void refused(MobileMaker x, String call, boolean got, int status) {
        is(call, got, false);
        is(call + " STATUS", x.status(), status);
    }

    /** The call was carried out, with STATUS 0. */
    static void done(MobileMaker x, String call, boolean got) {
        is(call, got, true);
        is(call + " STATUS", x.status(), 0);
    }

    /** The call answered so, with STATUS 0. */
    static void fine(MobileMaker x, String call, long got, long want) {
        is(call, got, want);
        is(call + " STATUS", x.status(), 0);
    }

    static void text(MobileMaker x, int top, String want) {
        fine(x, "show(" + top + ")", x.show(top), want.length());
        out(x, want);
    }

    static void out(MobileMaker x, String want) {
        int kept = Math.min(600, want.length());
        for (int k = 0; k < kept; k++) {
            is("out(" + k + ") of " + want, x.out(k), want.charAt(k));
        }
        noByte(x, -1);
        noByte(x, kept);
        noByte(x, Integer.MAX_VALUE);
        noByte(x, Integer.MIN_VALUE);
    }

    static void noByte(MobileMaker x, int k) {
        boolean thrown = false;
        try {
            x.out(k);
        } catch (NoSuchElementException e) {
            thrown = true;
        }
        is("out(" + k + ") throws", thrown, true);
    }

    static void end() {
        System.out.println(asked + " answers asked for, " + wrong + " not as due");
        if (wrong != 0) {
            System.exit(1);
        }
    }
}
