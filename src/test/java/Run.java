import java.util.ArrayList;
import java.util.List;
import java.util.NoSuchElementException;

/** A new object, the calls made on it, and what is due of each, for one promise of the document. */
final class Run {
    /** The document tells of no more calls on one object than these. */
    private static final int MOST_CALLS = 512;

    private final String promise;
    private final MobileMaker x = new MobileMaker();
    private final List<String> made = new ArrayList<>();
    private int calls = 0;
    private int status = 0;
    /** All that could be asked behind the first so many calls. */
    private List<String> known = null;
    private int knownBehind = -1;

    Run(int promise) {
        this.promise = "promise " + promise;
    }

    private String where(String call) {
        return promise + ": " + call + " behind " + made;
    }

    private void due(String call, String what, long got, long want) {
        Due.is(got == want ? promise : where(call) + what, got, want);
    }

    private long call(String call) {
        calls++;
        long got = Calls.make(x, call);
        made.add(call);
        return got;
    }

    private void statusIs(String call, int want) {
        calls++;
        due(call, " STATUS", x.status(), want);
        status = want;
        due(call, " calls", Math.max(calls, MOST_CALLS), MOST_CALLS);
    }

    int calls() {
        return calls;
    }

    /** Calls that only make ready: each must be carried out. */
    Run with(String... ready) {
        for (String call : ready) {
            long got = call(call);
            due(call, " is refused", got == Calls.refusal(call) ? 1 : 0, 0);
        }
        statusIs("all made ready", 0);
        return this;
    }

    /** A TRAY of 64 bits with these numbers. */
    Run row(int tray, long... row) {
        with("tray(" + tray + ", 2, " + row.length + ")");
        for (int i = 0; i < row.length; i++) {
            if (row[i] != 0) {
                call("write(" + tray + ", " + i + ", " + row[i] + ")");
            }
        }
        return this;
    }

    /** The call is carried out, with this answer and STATUS 0. */
    Run gives(long want, String call) {
        due(call, "", call(call), want);
        statusIs(call, 0);
        return this;
    }

    /** These calls of a kind with one answer each, from the number 0 on in the place of the sign #. */
    Run eachGives(String call, long... want) {
        for (int i = 0; i < want.length; i++) {
            gives(want[i], call.replace("#", "" + i));
        }
        return this;
    }

    /** The calls answer true, with STATUS 0. */
    Run does(String... wanted) {
        for (String call : wanted) {
            gives(1, call);
        }
        return this;
    }

    /** Each call is refused: false or NONE, this STATUS, and all else is as it was. */
    Run refuses(int want, String... refused) {
        for (String call : refused) {
            List<String> before = state();
            due(call, "", call(call), Calls.refusal(call));
            statusIs(call, want);
            List<String> after = state();
            boolean same = before.equals(after);
            due(call, same ? "" : " changed " + difference(before, after), same ? 0 : 1, 0);
        }
        return this;
    }

    /** A call without a STATUS: its answer, and STATUS as it was. */
    Run tells(long want, String call) {
        due(call, "", call(call), want);
        statusIs(call, status);
        return this;
    }

    /** There are no such bytes of OUT, and STATUS is as it was. */
    Run noBytes(String... places) {
        for (String k : places) {
            String call = "out(" + k + ")";
            boolean thrown = false;
            try {
                call(call);
            } catch (NoSuchElementException e) {
                thrown = true;
            }
            due(call, " throws", thrown ? 1 : 0, 1);
            statusIs(call, status);
        }
        return this;
    }

    /** OUT shows this text of a TOP. */
    Run shows(int top, String text) {
        return gives(text.length(), "show(" + top + ")").holds(text);
    }

    /** OUT is this text. */
    Run holds(String text) {
        for (int k = 0; k < text.length(); k++) {
            tells(text.charAt(k), "out(" + k + ")");
        }
        return noBytes("-1", "" + text.length());
    }

    private static String difference(List<String> before, List<String> after) {
        for (int i = 0; i < before.size() && i < after.size(); i++) {
            if (!before.get(i).equals(after.get(i))) {
                return before.get(i) + " to " + after.get(i);
            }
        }
        return before.size() + " answers to " + after.size();
    }

    private List<String> state() {
        if (knownBehind != made.size()) {
            known = new Asker(made).all();
            knownBehind = made.size();
        }
        return known;
    }

    /**
     * Asks all that can be asked, on new objects with the same calls, none of which has more calls than there may be.
     */
    private static final class Asker {
        private final List<String> made;
        private final List<String> answers = new ArrayList<>();
        private MobileMaker x;
        private int left = 0;
        private boolean hasShown = false;

        Asker(List<String> made) {
            this.made = made;
            for (String call : made) {
                hasShown |= call.startsWith("show(");
            }
        }

        private void begin() {
            x = new MobileMaker();
            for (String call : made) {
                Calls.make(x, call);
            }
            left = MOST_CALLS - made.size();
        }

        private long ask(String call) {
            if (left < 2) {
                begin();
            }
            long answer = Calls.make(x, call);
            left--;
            String told = call + " " + answer;
            if (Calls.hasStatus(call)) {
                told += " STATUS " + x.status();
                left--;
            }
            answers.add(told);
            return answer;
        }

        List<String> all() {
            for (int t = 0; t < 6; t++) {
                tray(t);
            }
            for (int p = 0; ask("part(" + p + ", 0)") != MobileMaker.NONE; p++) {
                part(p);
            }
            for (int i = 0; i < 15; i++) {
                ask("suspect(" + i + ")");
            }
            out();
            return answers;
        }

        private void tray(int t) {
            for (int i = 0; i < 17; i++) {
                ask("read(" + t + ", " + i + ")");
            }
            // Of no numbers: this tells whether the sorts are alike and changes nothing.
            for (int to = 0; to < t; to++) {
                ask("pour(" + t + ", 0, " + to + ", 0, 0)");
            }
        }

        private void part(int p) {
            for (int what = 1; what < 7; what++) {
                ask("part(" + p + ", " + what + ")");
            }
            long kind = ask("part(" + p + ", 0)");
            String more = kind == 4 ? "middle(" : kind == 1 ? null : "rodAt(";
            for (int what = 0; more != null && what < (kind == 4 ? 4 : 6); what++) {
                ask(more + p + ", " + what + ")");
            }
        }

        private void out() {
            for (int k = 0; k < (hasShown ? 601 : 1); k++) {
                try {
                    ask("out(" + k + ")");
                } catch (NoSuchElementException e) {
                    answers.add(k + " bytes");
                    return;
                }
            }
        }
    }
}
