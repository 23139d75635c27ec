import java.util.NoSuchElementException;

/** Makes each call on the program and on the model, and compares answer and STATUS. */
final class Both {
    final MobileMaker x = new MobileMaker();
    final Model m = new Model();
    private final String run;
    private final StringBuilder told = new StringBuilder();
    private int calls = 0;

    Both(String run) {
        this.run = run;
    }

    private long as(String call, long got, long want) {
        calls++;
        told.append(call).append(' ');
        String where = got == want && x.status() == m.status ? call : run + ": " + told;
        Due.is(where, got, want);
        Due.is(where + " STATUS", x.status(), m.status);
        return got;
    }

    private boolean as(String call, boolean got, boolean want) {
        return as(call, got ? 1 : 0, want ? 1 : 0) == 1;
    }

    int calls() {
        return calls;
    }

    boolean tray(int t, int s, int n) {
        return as("tray(" + t + "," + s + "," + n + ")", x.tray(t, s, n), m.tray(t, s, n));
    }

    boolean write(int t, int i, long v) {
        return as("write(" + t + "," + i + "," + v + ")", x.write(t, i, v), m.write(t, i, v));
    }

    long read(int t, int i) {
        return as("read(" + t + "," + i + ")", x.read(t, i), m.read(t, i));
    }

    boolean pour(int t, int i, int to, int j, int n) {
        return as("pour(" + t + "," + i + "," + to + "," + j + "," + n + ")", x.pour(t, i, to, j, n),
                m.pour(t, i, to, j, n));
    }

    int weight(int w) {
        return (int) as("weight(" + w + ")", x.weight(w), m.weight(w));
    }

    int load(int t, int i) {
        return (int) as("load(" + t + "," + i + ")", x.load(t, i), m.load(t, i));
    }

    int rod(int l, int h, boolean s) {
        return (int) as("rod(" + l + "," + h + "," + s + ")", x.rod(l, h, s), m.rod(l, h, s));
    }

    int plate(int t, int n) {
        return (int) as("plate(" + t + "," + n + ")", x.plate(t, n), m.plate(t, n));
    }

    long part(int p, int w) {
        return as("part(" + p + "," + w + ")", x.part(p, w), m.part(p, w));
    }

    long rodAt(int p, int w) {
        return as("rodAt(" + p + "," + w + ")", x.rodAt(p, w), m.rodAt(p, w));
    }

    long middle(int p, int w) {
        return as("middle(" + p + "," + w + ")", x.middle(p, w), m.middle(p, w));
    }

    boolean hang(int p, int r, int e, int t) {
        return as("hang(" + p + "," + r + "," + e + "," + t + ")", x.hang(p, r, e, t), m.hang(p, r, e, t));
    }

    boolean take(int p) {
        return as("take(" + p + ")", x.take(p), m.take(p));
    }

    boolean thread(int p, int l) {
        return as("thread(" + p + "," + l + ")", x.thread(p, l), m.thread(p, l));
    }

    boolean tied(int r, int p, int q) {
        return as("tied(" + r + "," + p + "," + q + ")", x.tied(r, p, q), m.tied(r, p, q));
    }

    boolean swap(int r) {
        return as("swap(" + r + ")", x.swap(r), m.swap(r));
    }

    long bears(int p) {
        return as("bears(" + p + ")", x.bears(p), m.bears(p));
    }

    long tilts(int p) {
        return as("tilts(" + p + ")", x.tilts(p), m.tilts(p));
    }

    long wrong(int p) {
        return as("wrong(" + p + ")", x.wrong(p), m.wrong(p));
    }

    long tie(int p, int w) {
        return as("tie(" + p + "," + w + ")", x.tie(p, w), m.tie(p, w));
    }

    long all(int p) {
        return as("all(" + p + ")", x.all(p), m.all(p));
    }

    long reach(int p, int r, boolean g) {
        return as("reach(" + p + "," + r + "," + g + ")", x.reach(p, r, g), m.reach(p, r, g));
    }

    long lowest(int p) {
        return as("lowest(" + p + ")", x.lowest(p), m.lowest(p));
    }

    long clash(int a, int b) {
        return as("clash(" + a + "," + b + ")", x.clash(a, b), m.clash(a, b));
    }

    long clashes(int p) {
        return as("clashes(" + p + ")", x.clashes(p), m.clashes(p));
    }

    long clear(int p) {
        return as("clear(" + p + ")", x.clear(p), m.clear(p));
    }

    long ways(int p, int t) {
        return as("ways(" + p + "," + t + ")", x.ways(p, t), m.ways(p, t));
    }

    long fill(int p, int t, int k) {
        return as("fill(" + p + "," + t + "," + k + ")", x.fill(p, t, k), m.fill(p, t, k));
    }

    long fewest(int p, int k) {
        return as("fewest(" + p + "," + k + ")", x.fewest(p, k), m.fewest(p, k));
    }

    long suspect(int i) {
        return as("suspect(" + i + ")", x.suspect(i), m.suspect(i));
    }

    long cut() {
        return as("cut()", x.cut(), m.cut());
    }

    long same(int a, int b) {
        return as("same(" + a + "," + b + ")", x.same(a, b), m.same(a, b));
    }

    long show(int p) {
        return as("show(" + p + ")", x.show(p), m.show(p));
    }

    long out(int k) {
        long got;
        try {
            got = x.out(k);
        } catch (NoSuchElementException e) {
            got = -2;
        }
        return as("out(" + k + ")", got, m.out(k));
    }

    /** All that can be asked of the state without a change. */
    void whole() {
        for (int p = 0; p < m.count(); p++) {
            for (int w = 0; w < 7; w++) {
                part(p, w);
            }
            for (int w = 0; w < 6; w++) {
                rodAt(p, w);
            }
        }
        for (int i = 0; i < 15; i++) {
            suspect(i);
        }
    }
}
