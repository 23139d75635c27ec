import java.util.Arrays;
import java.util.NoSuchElementException;

public final class MobileMaker {
    public static final int NONE = -1;

    private static final int FINE = 0;
    private static final int NO_TRAY = 1;
    private static final int NO_PART = 2;
    private static final int TRAY_MISSING = 3;
    private static final int NO_PLACE = 4;
    private static final int OTHER_KIND = 5;
    private static final int BELOW_ZERO = 6;
    private static final int CANNOT_BE = 7;
    private static final int HANGS_OR_NOT = 8;
    private static final int NOT_WHOLE_OR_LEVEL = 9;
    private static final int TOO_MANY = 10;
    private static final int THERE_IS_NONE = 11;
    private static final int TOUCHES_OR_UNLIKE = 12;

    private static final int WEIGHT = 1;
    private static final int ROD = 2;
    private static final int SHORT = 3;
    private static final int PLATE = 4;

    private static final int LEFT = 0;
    private static final int RIGHT = 1;

    private static final int TRAYS = 6;
    private static final int SORTS = 3;
    private static final int MOST_NUMBERS = 16;
    private static final int MOST_PARTS = 60;
    private static final int MOST_WEIGHT = 1000000;
    private static final int LEAST_LENGTH = 2;
    private static final int MOST_LENGTH = 1000;
    private static final int MOST_HEFT = 1000;
    private static final int MOST_THREAD = 1000;
    private static final int MOST_LOWER = 1000000;
    private static final int LEAST_CORNERS = 3;
    private static final int MOST_CORNERS = 8;
    private static final int FARTHEST_CORNER = 1000;
    private static final int MOST_LONGER = 5;
    private static final int MOST_TRIES = 20000;
    // A rod more is needed for each weight but one, so 60 parts have at most 30 weights in one mobile.
    private static final int MOST_PAIRS = 435;
    private static final int MOST_PLACES = 8;
    private static final int LEAST_PARTED = 2;
    private static final int MOST_PARTED = 10;
    private static final int MOST_SETS = 1 << MOST_PARTED;
    // Of sets of positive numbers with one sum none holds another: of 10 numbers there are at most 10 over 5.
    private static final int MOST_ALIKE = 252;
    private static final int MOST_SUSPECTS = 14;
    private static final int MOST_BYTES = 600;
    // Euclid's steps on numbers of 63 bits are fewer than 100.
    private static final int MOST_STEPS = 200;

    private static final int GO_ON = 0;
    private static final int FOUND = 1;
    private static final int SPENT = 2;

    private final Tray[] trays = new Tray[TRAYS];
    private final Part[] parts = new Part[MOST_PARTS];
    private int made = 0;
    private int status = FINE;
    private final Mobile mobile = new Mobile();
    private final Ring ring = new Ring();
    private final Span one = new Span();
    private final Span other = new Span();
    private final Clearing clearing = new Clearing();
    private final Parting parting = new Parting();
    private final int[] suspects = new int[MOST_SUSPECTS];
    private int suspected = 0;
    private final Text shown = new Text();

    public MobileMaker() {
        for (int i = 0; i < trays.length; i++) {
            trays[i] = new Tray();
        }
    }

    public int status() {
        return status;
    }

    // ---- TRAYS

    public boolean tray(int tray, int sort, int many) {
        Tray wanted = trayAt(tray);
        if (wanted == null || sort < 0 || sort >= SORTS) {
            return refuses(NO_TRAY);
        }
        if (many < 0) {
            return refuses(BELOW_ZERO);
        }
        if (many > MOST_NUMBERS) {
            return refuses(CANNOT_BE);
        }
        wanted.lay(sort, many);
        return allows();
    }

    public boolean write(int tray, int place, long v) {
        Tray wanted = trayAt(tray);
        int found = placeStatus(wanted, place);
        if (found != FINE || wanted == null) {
            return refuses(found);
        }
        wanted.put(place, v);
        return allows();
    }

    public long read(int tray, int place) {
        Tray wanted = trayAt(tray);
        status = placeStatus(wanted, place);
        return status == FINE && wanted != null ? wanted.at(place) : NONE;
    }

    public boolean pour(int tray, int i, int to, int j, int many) {
        Tray from = trayAt(tray);
        Tray into = trayAt(to);
        if (from == null || into == null) {
            return refuses(NO_TRAY);
        }
        if (from.isMissing() || into.isMissing()) {
            return refuses(TRAY_MISSING);
        }
        if (from.sort != into.sort) {
            return refuses(TOUCHES_OR_UNLIKE);
        }
        if (many < 0) {
            return refuses(BELOW_ZERO);
        }
        if (!from.hasFrom(i, many) || !into.hasFrom(j, many)) {
            return refuses(NO_PLACE);
        }
        System.arraycopy(from.row, i, into.row, j, many);
        return allows();
    }

    // ---- PARTS

    public int weight(int weight) {
        return newWeight(weight);
    }

    public int load(int tray, int place) {
        Tray wanted = trayAt(tray);
        int found = placeStatus(wanted, place);
        if (found != FINE || wanted == null) {
            return none(found);
        }
        return newWeight(wanted.at(place));
    }

    public int rod(int length, int heft, boolean isShort) {
        if (length < LEAST_LENGTH || length > MOST_LENGTH || heft < 0 || heft > MOST_HEFT) {
            return none(CANNOT_BE);
        }
        if (made >= MOST_PARTS) {
            return none(TOO_MANY);
        }
        return added(new Rod(made, isShort ? SHORT : ROD, length, heft));
    }

    public int plate(int tray, int corners) {
        Tray wanted = trayAt(tray);
        if (wanted == null) {
            return none(NO_TRAY);
        }
        if (wanted.isMissing()) {
            return none(TRAY_MISSING);
        }
        if (corners < LEAST_CORNERS || corners > MOST_CORNERS) {
            return none(CANNOT_BE);
        }
        if (wanted.many < 2 * corners) {
            return none(NO_PLACE);
        }
        if (!ring.draw(wanted, corners)) {
            return none(CANNOT_BE);
        }
        if (ring.touchesItself()) {
            return none(TOUCHES_OR_UNLIKE);
        }
        if (made >= MOST_PARTS) {
            return none(TOO_MANY);
        }
        return added(new Plate(made, ring));
    }

    public int part(int part, int what) {
        Part asked = partAt(part);
        if (asked == null) {
            return none(NO_PART);
        }
        if (what < 0 || what > 6) {
            return none(CANNOT_BE);
        }
        status = FINE;
        return partTold(asked, what);
    }

    public long rodAt(int rod, int what) {
        Rod asked = rodGiven(rod);
        if (asked == null) {
            return NONE;
        }
        if (what < 0 || what > 5) {
            return none(CANNOT_BE);
        }
        return rodTold(asked, what);
    }

    public long middle(int plate, int what) {
        Part asked = partAt(plate);
        if (asked == null) {
            return none(NO_PART);
        }
        if (asked instanceof Plate flat) {
            if (what < 0 || what > 3) {
                return none(CANNOT_BE);
            }
            status = FINE;
            return flat.middleAt(what);
        }
        return none(OTHER_KIND);
    }

    public boolean hang(int part, int rod, int end, int thread) {
        Part hung = partAt(part);
        Part bearer = partAt(rod);
        if (hung == null || bearer == null) {
            return refuses(NO_PART);
        }
        Rod onto = asRod(bearer);
        if (onto == null || onto.kind == SHORT && asRod(hung) != null) {
            return refuses(OTHER_KIND);
        }
        if (end != LEFT && end != RIGHT || !isThread(thread) || onto == hung || isAbove(hung, onto)) {
            return refuses(CANNOT_BE);
        }
        if (hung.above != null || onto.side(end) != null) {
            return refuses(HANGS_OR_NOT);
        }
        onto.bear(end, hung);
        hung.thread = thread;
        return allows();
    }

    public boolean take(int part) {
        Part taken = partAt(part);
        if (taken == null) {
            return refuses(NO_PART);
        }
        if (taken.above == null) {
            return refuses(HANGS_OR_NOT);
        }
        taken.comeOff();
        return allows();
    }

    public boolean thread(int part, int length) {
        Part hung = partAt(part);
        if (hung == null) {
            return refuses(NO_PART);
        }
        if (hung.above == null) {
            return refuses(HANGS_OR_NOT);
        }
        if (!isThread(length)) {
            return refuses(CANNOT_BE);
        }
        hung.thread = length;
        return allows();
    }

    public boolean tied(int rod, int p, int q) {
        Rod asked = rodGiven(rod);
        if (asked == null) {
            return false;
        }
        if (q < 2 || q > MOST_LOWER || p < 1 || p >= q) {
            return refuses(CANNOT_BE);
        }
        asked.p = p;
        asked.q = q;
        return allows();
    }

    public boolean swap(int rod) {
        Rod asked = rodGiven(rod);
        if (asked == null) {
            return false;
        }
        Part wasLeft = asked.left;
        asked.bear(LEFT, asked.right);
        asked.bear(RIGHT, wasLeft);
        return allows();
    }

    public long bears(int part) {
        Part asked = partAt(part);
        if (asked == null) {
            return none(NO_PART);
        }
        mobile.gather(asked);
        status = FINE;
        return asked.load;
    }

    public int tilts(int rod) {
        Rod asked = rodGiven(rod);
        if (asked == null) {
            return NONE;
        }
        mobile.gather(asked);
        long lean = asked.lean();
        return lean == 0 ? 0 : lean > 0 ? 1 : 2;
    }

    public int wrong(int top) {
        Part asked = topGiven(top);
        if (asked == null) {
            return NONE;
        }
        mobile.gather(asked);
        return mobile.notLevel();
    }

    public long tie(int rod, int what) {
        Rod asked = rodGiven(rod);
        if (asked == null) {
            return NONE;
        }
        if (what != 0 && what != 1) {
            return none(CANNOT_BE);
        }
        mobile.gather(asked);
        if (!asked.canBeLevel()) {
            return none(THERE_IS_NONE);
        }
        return what == 0 ? asked.levelUpper() : asked.levelLower();
    }

    public int all(int top) {
        Part asked = topGiven(top);
        if (asked == null) {
            return NONE;
        }
        mobile.gather(asked);
        if (!mobile.canAllBeLevel()) {
            return none(THERE_IS_NONE);
        }
        return mobile.tieAllLevel();
    }

    // ---- as all turns

    public int reach(int part, int rod, boolean greatest) {
        Part asked = partAt(part);
        Part from = partAt(rod);
        if (asked == null || from == null) {
            return none(NO_PART);
        }
        Rod turning = asRod(from);
        if (turning == null) {
            return none(OTHER_KIND);
        }
        if (!isAbove(turning, asked)) {
            return none(HANGS_OR_NOT);
        }
        one.measure(asked, turning.above);
        if (!one.whole) {
            return none(NOT_WHOLE_OR_LEVEL);
        }
        status = FINE;
        return greatest ? one.sum : one.least();
    }

    public int lowest(int top) {
        Part asked = topGiven(top);
        if (asked == null) {
            return NONE;
        }
        mobile.gather(asked);
        return mobile.lowestNumber();
    }

    public int clash(int a, int b) {
        Part first = partAt(a);
        Part second = partAt(b);
        if (first == null || second == null || first == second) {
            return none(NO_PART);
        }
        if (first.kind != WEIGHT || second.kind != WEIGHT) {
            return none(OTHER_KIND);
        }
        Part top = topOf(first);
        if (top != topOf(second)) {
            return none(HANGS_OR_NOT);
        }
        mobile.gather(top);
        Rod last = lastAboveBoth(first, second);
        one.measure(first, last);
        other.measure(second, last);
        if (!one.whole || !other.whole) {
            return none(NOT_WHOLE_OR_LEVEL);
        }
        status = FINE;
        return first.height == second.height && canTouch(last) ? 1 : 0;
    }

    public int clashes(int top) {
        status = wholeTopStatus(top);
        if (status != FINE) {
            return NONE;
        }
        int found = 0;
        for (int i = 0; i < mobile.many; i++) {
            for (int j = i + 1; j < mobile.many; j++) {
                if (canMeet(mobile.members[i], mobile.members[j], 0)) {
                    found++;
                }
            }
        }
        return found;
    }

    public int clear(int top) {
        status = wholeTopStatus(top);
        if (status != FINE) {
            return NONE;
        }
        prepareClearing();
        for (int total = 0; total <= MOST_LONGER; total++) {
            int ended = clearing.search(total);
            if (ended == FOUND) {
                clearing.lengthenThreads();
                return total;
            }
            if (ended == SPENT) {
                return none(TOO_MANY);
            }
        }
        return none(THERE_IS_NONE);
    }

    // ---- WAYS, FEWEST

    public int ways(int top, int tray) {
        int found = givenStatus(top, tray);
        status = found == FINE ? shapeStatus(partAt(top), trayAt(tray)) : found;
        return status == FINE ? waysFound(partAt(top), trayAt(tray)) : NONE;
    }

    public int fill(int top, int tray, int k) {
        Tray wanted = trayAt(tray);
        int found = givenStatus(top, tray);
        if (found == FINE) {
            found = placeStatus(wanted, k);
        }
        if (found == FINE) {
            found = shapeStatus(partAt(top), wanted);
        }
        if (found == FINE && waysFound(partAt(top), wanted) == 0) {
            found = THERE_IS_NONE;
        }
        status = found;
        return status == FINE ? parting.firstPlaceOf(k) : NONE;
    }

    public int fewest(int top, int k) {
        status = fewestStatus(partAt(top), k);
        if (status != FINE) {
            return NONE;
        }
        if (k == 0) {
            suspected = 0;
            return suspected;
        }
        if (k > mobile.countOf(WEIGHT) || !mobile.staysLevelBare()) {
            return none(THERE_IS_NONE);
        }
        suspectAllWeights();
        return suspected;
    }

    public int suspect(int i) {
        return i >= 0 && i < suspected && i < suspects.length ? suspects[i] : NONE;
    }

    public int cut() {
        int taken = 0;
        for (int i = 0; i < suspected; i++) {
            Part kept = partAt(suspect(i));
            if (kept != null && kept.above != null) {
                kept.comeOff();
                taken++;
            }
        }
        status = FINE;
        return taken;
    }

    public int same(int a, int b) {
        Part first = partAt(a);
        Part second = partAt(b);
        if (first == null || second == null) {
            return none(NO_PART);
        }
        if (first.above != null || second.above != null) {
            return none(HANGS_OR_NOT);
        }
        status = FINE;
        // A mobile is the same as itself; two have no part in common, so that one is at most 30 rods deep.
        return first == second || areAlike(first, second, 0) ? 1 : 0;
    }

    public int show(int top) {
        Part asked = topGiven(top);
        if (asked == null) {
            return NONE;
        }
        return shown.tell(asked);
    }

    public int out(int k) throws NoSuchElementException {
        if (!shown.has(k)) {
            throw new NoSuchElementException("no such byte");
        }
        return shown.at(k);
    }

    // ---- STATUS, and what the calls ask of their numbers

    private boolean allows() {
        status = FINE;
        return true;
    }

    private boolean refuses(int why) {
        status = why;
        return false;
    }

    private int none(int why) {
        status = why;
        return NONE;
    }

    private Tray trayAt(int tray) {
        return tray >= 0 && tray < trays.length ? trays[tray] : null;
    }

    private Part partAt(int part) {
        return part >= 0 && part < made && part < parts.length ? parts[part] : null;
    }

    private static Rod asRod(Part part) {
        if (part instanceof Rod rod) {
            return rod;
        }
        return null;
    }

    private static int placeStatus(Tray tray, int place) {
        if (tray == null) {
            return NO_TRAY;
        }
        if (tray.isMissing()) {
            return TRAY_MISSING;
        }
        return tray.has(place) ? FINE : NO_PLACE;
    }

    // Sets STATUS; null where it is not FINE.
    private Rod rodGiven(int rod) {
        Part asked = partAt(rod);
        Rod found = asRod(asked);
        status = asked == null ? NO_PART : found == null ? OTHER_KIND : FINE;
        return found;
    }

    // Sets STATUS; null where it is not FINE.
    private Part topGiven(int top) {
        Part asked = partAt(top);
        status = asked == null ? NO_PART : asked.above != null ? HANGS_OR_NOT : FINE;
        return status == FINE ? asked : null;
    }

    // Leaves the mobile gathered where it is FINE.
    private int wholeTopStatus(int top) {
        Part asked = partAt(top);
        if (asked == null) {
            return NO_PART;
        }
        if (asked.above != null) {
            return HANGS_OR_NOT;
        }
        mobile.gather(asked);
        return mobile.hasWholeArms() ? FINE : NOT_WHOLE_OR_LEVEL;
    }

    private static boolean isThread(int length) {
        return length >= 1 && length <= MOST_THREAD;
    }

    private int newWeight(long heavy) {
        if (heavy < 1 || heavy > MOST_WEIGHT) {
            return none(CANNOT_BE);
        }
        if (made >= MOST_PARTS) {
            return none(TOO_MANY);
        }
        return added(new Weight(made, (int) heavy));
    }

    private int added(Part part) {
        if (made >= parts.length) {
            return none(TOO_MANY);
        }
        parts[made] = part;
        made++;
        status = FINE;
        return part.number;
    }

    private static int partTold(Part asked, int what) {
        switch (what) {
            case 0:
                return asked.kind;
            case 1:
                return asked.own;
            case 2:
                return asked.above == null ? NONE : asked.above.number;
            case 3:
                return asked.above == null ? NONE : asked.end;
            case 4:
                return asked.thread;
            case 5:
                return heightOf(asked);
            default:
                return topOf(asked).number;
        }
    }

    private static long rodTold(Rod asked, int what) {
        switch (what) {
            case 0:
                return asked.length;
            case 1:
                return asked.heft;
            case 2:
                return asked.p;
            case 3:
                return asked.q;
            default:
                Part hung = asked.side(what == 4 ? LEFT : RIGHT);
                return hung == null ? NONE : hung.number;
        }
    }

    // ---- who hangs on whom

    private static Part topOf(Part part) {
        Part top = part;
        for (Rod rod = part.above; rod != null; rod = rod.above) {
            top = rod;
        }
        return top;
    }

    private static int heightOf(Part part) {
        int height = part.thread;
        for (Rod rod = part.above; rod != null; rod = rod.above) {
            height += rod.thread;
        }
        return height;
    }

    private static boolean isAbove(Part upper, Part part) {
        for (Rod rod = part.above; rod != null; rod = rod.above) {
            if (rod == upper) {
                return true;
            }
        }
        return false;
    }

    // Asks the paths that the latest gathering left.
    private static Rod lastAboveBoth(Part a, Part b) {
        for (Rod rod = a.above; rod != null; rod = rod.above) {
            if ((b.path & rod.bit()) != 0) {
                return rod;
            }
        }
        return null;
    }

    // ---- MEET and CLEARED

    // With the spans of both measured from the ends of the rod.
    private boolean canTouch(Rod last) {
        return last != null
                && last.length <= one.sum + other.sum
                && one.least() <= other.sum + last.length
                && other.least() <= one.sum + last.length;
    }

    // Whether two can meet once their heights, at most so far apart now, are alike; their arms are known to be whole.
    private boolean canMeet(Part a, Part b, int apart) {
        if (a == null || b == null || a.kind != WEIGHT || b.kind != WEIGHT) {
            return false;
        }
        if (Math.abs(a.height - b.height) > apart) {
            return false;
        }
        Rod last = lastAboveBoth(a, b);
        one.measure(a, last);
        other.measure(b, last);
        return canTouch(last);
    }

    private void prepareClearing() {
        clearing.begin();
        for (int i = 0; i < made; i++) {
            Part part = parts[i];
            if (part != null && part.above != null && mobile.holds(part)) {
                clearing.offer(part);
            }
        }
        for (int i = 0; i < mobile.many; i++) {
            for (int j = i + 1; j < mobile.many; j++) {
                if (canMeet(mobile.members[i], mobile.members[j], MOST_LONGER)) {
                    clearing.watch(mobile.members[i], mobile.members[j]);
                }
            }
        }
    }

    // ---- SHAPE and WAYS

    private int givenStatus(int top, int tray) {
        Tray wanted = trayAt(tray);
        if (wanted == null) {
            return NO_TRAY;
        }
        if (partAt(top) == null) {
            return NO_PART;
        }
        return wanted.isMissing() ? TRAY_MISSING : FINE;
    }

    private int shapeStatus(Part top, Tray tray) {
        if (asRod(top) == null) {
            return OTHER_KIND;
        }
        if (tray == null || !tray.canBeParted()) {
            return CANNOT_BE;
        }
        if (top.above != null) {
            return HANGS_OR_NOT;
        }
        mobile.gather(top);
        return mobile.isShape() ? FINE : NOT_WHOLE_OR_LEVEL;
    }

    private int waysFound(Part top, Tray tray) {
        Rod shape = asRod(top);
        if (shape == null || tray == null) {
            return 0;
        }
        return parting.count(shape, tray);
    }

    // ---- FEWEST

    private int fewestStatus(Part asked, int k) {
        if (asked == null) {
            return NO_PART;
        }
        if (asRod(asked) == null) {
            return OTHER_KIND;
        }
        if (k < 0 || k > MOST_SUSPECTS) {
            return CANNOT_BE;
        }
        if (asked.above != null) {
            return HANGS_OR_NOT;
        }
        mobile.gather(asked);
        if (mobile.notLevel() > 0) {
            return NOT_WHOLE_OR_LEVEL;
        }
        return mobile.countOf(WEIGHT) > MOST_SUSPECTS ? TOO_MANY : FINE;
    }

    private void suspectAllWeights() {
        suspected = 0;
        for (int i = 0; i < made; i++) {
            Part part = parts[i];
            if (part != null && part.kind == WEIGHT && mobile.holds(part) && suspected < suspects.length) {
                suspects[suspected] = part.number;
                suspected++;
            }
        }
    }

    // ---- SAME

    private static boolean areAlike(Part a, Part b, int depth) {
        if (depth >= MOST_PARTS || a.kind != b.kind || a.own != b.own) {
            return false;
        }
        Rod r = asRod(a);
        Rod s = asRod(b);
        if (r == null || s == null) {
            return true;
        }
        if (r.length != s.length || r.heft != s.heft) {
            return false;
        }
        if (r.isTiedAt(s.p, s.q)
                && areSidesAlike(r.left, s.left, depth)
                && areSidesAlike(r.right, s.right, depth)) {
            return true;
        }
        return r.isTiedAt(s.q - s.p, s.q)
                && areSidesAlike(r.left, s.right, depth)
                && areSidesAlike(r.right, s.left, depth);
    }

    private static boolean areSidesAlike(Part a, Part b, int depth) {
        if (a == null || b == null) {
            return a == null && b == null;
        }
        return a.thread == b.thread && areAlike(a, b, depth + 1);
    }

    private static long commonDivisor(long a, long b) {
        long greater = Math.abs(a);
        long lesser = Math.abs(b);
        for (int step = 0; step < MOST_STEPS && lesser != 0; step++) {
            long rest = greater % lesser;
            greater = lesser;
            lesser = rest;
        }
        return greater == 0 ? 1 : greater;
    }

    private static final class Tray {
        int sort = NONE;
        int many = 0;
        final long[] row = new long[MOST_NUMBERS];

        boolean isMissing() {
            return sort == NONE;
        }

        void lay(int newSort, int newMany) {
            sort = newSort;
            many = newMany;
            Arrays.fill(row, 0L);
        }

        boolean has(int place) {
            return place >= 0 && place < many && place < row.length;
        }

        boolean hasFrom(int place, int count) {
            return place >= 0 && count >= 0 && (long) place + count <= many;
        }

        long at(int place) {
            return has(place) ? row[place] : NONE;
        }

        void put(int place, long v) {
            if (has(place)) {
                row[place] = sort == 0 ? (short) v : sort == 1 ? (int) v : v;
            }
        }

        boolean canBeParted() {
            if (many < LEAST_PARTED || many > MOST_PARTED) {
                return false;
            }
            for (int i = 0; i < many; i++) {
                if (at(i) < 1 || at(i) > MOST_WEIGHT) {
                    return false;
                }
            }
            return true;
        }
    }

    private abstract static class Part {
        final int number;
        final int kind;
        final int own;
        Rod above = null;
        int end = NONE;
        int thread = 0;
        // These four are true of the latest gathering alone.
        long path = 0;
        int height = 0;
        long load = 0;
        long bareLoss = 0;

        Part(int number, int kind, int own) {
            this.number = number;
            this.kind = kind;
            this.own = own;
        }

        // 60 parts find room in the 64 bits of a long.
        final long bit() {
            return 1L << number;
        }

        final void comeOff() {
            if (above != null) {
                above.bear(end, null);
            }
            above = null;
            end = NONE;
            thread = 0;
        }
    }

    private static final class Weight extends Part {
        Weight(int number, int heavy) {
            super(number, WEIGHT, heavy);
        }
    }

    private static final class Rod extends Part {
        final int length;
        final int heft;
        int p = 1;
        int q = 2;
        Part left = null;
        Part right = null;

        Rod(int number, int kind, int length, int heft) {
            super(number, kind, length * heft);
            this.length = length;
            this.heft = heft;
        }

        Part side(int at) {
            return at == LEFT ? left : right;
        }

        void bear(int at, Part part) {
            if (at == LEFT) {
                left = part;
            } else {
                right = part;
            }
            if (part != null) {
                part.above = this;
                part.end = at;
            }
        }

        boolean hasWholeArms() {
            return q > 0 && (long) length * p % q == 0;
        }

        int arm(int at) {
            int leftArm = q > 0 ? (int) ((long) length * p / q) : 0;
            return at == LEFT ? leftArm : length - leftArm;
        }

        boolean isTiedAt(int upper, int lower) {
            return (long) p * lower == (long) upper * q;
        }

        private static long loadOf(Part part) {
            return part == null ? 0 : part.load;
        }

        private static long bareLossOf(Part part) {
            return part == null ? 0 : part.bareLoss;
        }

        // The moments' difference, times 2 q / LENGTH so that it stays whole; above 0 the left side sinks.
        long lean() {
            return 2 * (loadOf(left) * p - loadOf(right) * (q - p)) + (long) own * (2L * p - q);
        }

        boolean keepsLevelBare() {
            return bareLossOf(left) * p == bareLossOf(right) * (q - p);
        }

        private long upperShare() {
            return 2 * loadOf(right) + own;
        }

        private long lowerShare() {
            return 2 * (loadOf(left) + loadOf(right) + own);
        }

        boolean canBeLevel() {
            return upperShare() > 0 && upperShare() < lowerShare();
        }

        int levelUpper() {
            return (int) (upperShare() / commonDivisor(upperShare(), lowerShare()));
        }

        int levelLower() {
            return (int) (lowerShare() / commonDivisor(upperShare(), lowerShare()));
        }

        void tieLevel() {
            p = levelUpper();
            q = levelLower();
        }
    }

    private static final class Plate extends Part {
        private final long xUpper;
        private final long xLower;
        private final long yUpper;
        private final long yLower;

        Plate(int number, Ring ring) {
            super(number, PLATE, ring.twiceArea());
            long lower = 3L * ring.twiceArea();
            long x = ring.middleSum(true);
            long y = ring.middleSum(false);
            long xCommon = commonDivisor(x, lower);
            long yCommon = commonDivisor(y, lower);
            xUpper = x / xCommon;
            xLower = lower / xCommon;
            yUpper = y / yCommon;
            yLower = lower / yCommon;
        }

        long middleAt(int what) {
            switch (what) {
                case 0:
                    return xUpper;
                case 1:
                    return xLower;
                case 2:
                    return yUpper;
                default:
                    return yLower;
            }
        }
    }

    // The corners of the plate that is being made.
    private static final class Ring {
        private final int[] x = new int[MOST_CORNERS];
        private final int[] y = new int[MOST_CORNERS];
        private int corners = 0;

        // False where a number is too far out.
        boolean draw(Tray tray, int many) {
            corners = Math.min(many, MOST_CORNERS);
            for (int i = 0; i < corners; i++) {
                long across = tray.at(2 * i);
                long up = tray.at(2 * i + 1);
                if (isTooFar(across) || isTooFar(up)) {
                    return false;
                }
                x[i] = (int) across;
                y[i] = (int) up;
            }
            return true;
        }

        private static boolean isTooFar(long v) {
            return v < -FARTHEST_CORNER || v > FARTHEST_CORNER;
        }

        private int next(int i) {
            return i + 1 < corners ? i + 1 : 0;
        }

        boolean touchesItself() {
            for (int i = 0; i < corners; i++) {
                if (foldsBackAfter(i)) {
                    return true;
                }
                for (int j = i + 2; j < corners; j++) {
                    if (next(j) != i && doSidesMeet(i, j)) {
                        return true;
                    }
                }
            }
            return false;
        }

        // Neighbouring sides have more than their corner in common just if the second one turns right back,
        // or if one is a point.
        private boolean foldsBackAfter(int a) {
            int b = next(a);
            int c = next(b);
            int along = (x[b] - x[a]) * (x[c] - x[b]) + (y[b] - y[a]) * (y[c] - y[b]);
            return turn(a, b, c) == 0 && along <= 0;
        }

        private boolean doSidesMeet(int i, int j) {
            int a = i;
            int b = next(i);
            int c = j;
            int d = next(j);
            int cTurn = turn(a, b, c);
            int dTurn = turn(a, b, d);
            int aTurn = turn(c, d, a);
            int bTurn = turn(c, d, b);
            if (cTurn * dTurn < 0 && aTurn * bTurn < 0) {
                return true;
            }
            return cTurn == 0 && isInBox(a, b, c) || dTurn == 0 && isInBox(a, b, d)
                    || aTurn == 0 && isInBox(c, d, a) || bTurn == 0 && isInBox(c, d, b);
        }

        private int turn(int a, int b, int c) {
            return Integer.compare((x[b] - x[a]) * (y[c] - y[a]) - (y[b] - y[a]) * (x[c] - x[a]), 0);
        }

        private boolean isInBox(int a, int b, int c) {
            return Math.min(x[a], x[b]) <= x[c] && x[c] <= Math.max(x[a], x[b])
                    && Math.min(y[a], y[b]) <= y[c] && y[c] <= Math.max(y[a], y[b]);
        }

        private int crossAfter(int i) {
            return x[i] * y[next(i)] - x[next(i)] * y[i];
        }

        private int signedTwiceArea() {
            int sum = 0;
            for (int i = 0; i < corners; i++) {
                sum += crossAfter(i);
            }
            return sum;
        }

        int twiceArea() {
            return Math.abs(signedTwiceArea());
        }

        // The middle's x (or y) times three times twiceArea().
        long middleSum(boolean across) {
            long sum = 0;
            for (int i = 0; i < corners; i++) {
                int both = across ? x[i] + x[next(i)] : y[i] + y[next(i)];
                sum += (long) both * crossAfter(i);
            }
            return signedTwiceArea() < 0 ? -sum : sum;
        }
    }

    // A part and all that hangs on it, each behind the rod that bears it.
    private static final class Mobile {
        final Part[] members = new Part[MOST_PARTS];
        int many = 0;
        private long numbers = 0;

        void gather(Part top) {
            many = 0;
            numbers = 0;
            add(top, 0, 0);
            for (int i = 0; i < many && i < members.length; i++) {
                if (members[i] instanceof Rod rod) {
                    add(rod.left, rod.height, rod.path);
                    add(rod.right, rod.height, rod.path);
                }
            }
            for (int i = many - 1; i > 0; i--) {
                Rod bearer = members[i].above;
                if (bearer != null) {
                    bearer.load += members[i].load;
                    bearer.bareLoss += members[i].bareLoss;
                }
            }
        }

        private void add(Part part, int height, long path) {
            if (part == null || many >= members.length) {
                return;
            }
            part.height = many == 0 ? 0 : height + part.thread;
            part.path = path | part.bit();
            part.load = part.own;
            part.bareLoss = part.kind == WEIGHT ? part.own : 0;
            members[many] = part;
            many++;
            numbers |= part.bit();
        }

        boolean holds(Part part) {
            return (numbers & part.bit()) != 0;
        }

        int countOf(int kind) {
            int found = 0;
            for (int i = 0; i < many; i++) {
                if (members[i].kind == kind) {
                    found++;
                }
            }
            return found;
        }

        int notLevel() {
            int found = 0;
            for (int i = 0; i < many; i++) {
                if (members[i] instanceof Rod rod && rod.lean() != 0) {
                    found++;
                }
            }
            return found;
        }

        boolean canAllBeLevel() {
            for (int i = 0; i < many; i++) {
                if (members[i] instanceof Rod rod && !rod.canBeLevel()) {
                    return false;
                }
            }
            return true;
        }

        int tieAllLevel() {
            int rods = 0;
            for (int i = 0; i < many; i++) {
                if (members[i] instanceof Rod rod) {
                    rod.tieLevel();
                    rods++;
                }
            }
            return rods;
        }

        boolean hasWholeArms() {
            for (int i = 0; i < many; i++) {
                if (members[i] instanceof Rod rod && !rod.hasWholeArms()) {
                    return false;
                }
            }
            return true;
        }

        // Rods alone have one free end more than there are rods.
        boolean isShape() {
            if (many + 1 > MOST_PLACES || !hasWholeArms()) {
                return false;
            }
            for (int i = 0; i < many; i++) {
                Rod rod = asRod(members[i]);
                if (rod == null || rod.heft != 0) {
                    return false;
                }
            }
            return true;
        }

        int lowestNumber() {
            int number = NONE;
            int height = NONE;
            for (int i = 0; i < many; i++) {
                Part part = members[i];
                if (part.height > height || part.height == height && part.number < number) {
                    number = part.number;
                    height = part.height;
                }
            }
            return number;
        }

        // A level rod stays level just if what its sides lose balances too: nothing on both, or something on both.
        // So a set that takes one weight takes something from both sides of every rod down to all ends: every
        // weight. That leaves one set beside the empty one to be looked at.
        boolean staysLevelBare() {
            for (int i = 0; i < many; i++) {
                if (members[i] instanceof Rod rod && !rod.keepsLevelBare()) {
                    return false;
                }
            }
            return true;
        }
    }

    // The arms on the way from a rod down to a part.
    private static final class Span {
        int sum = 0;
        private int longest = 0;
        boolean whole = true;

        // The arms of all rods above the part, up to the one that hangs on the stop (null: to the top).
        void measure(Part part, Rod stop) {
            sum = 0;
            longest = 0;
            whole = true;
            int end = part.end;
            for (Rod rod = part.above; rod != null && rod != stop; rod = rod.above) {
                int arm = rod.arm(end);
                sum += arm;
                longest = Math.max(longest, arm);
                whole = whole && rod.hasWholeArms();
                end = rod.end;
            }
        }

        int least() {
            return Math.max(0, 2 * longest - sum);
        }
    }

    // The search for CLEARED.
    private static final class Clearing {
        private final Part[] offered = new Part[MOST_PARTS];
        private final int[] longer = new int[MOST_PARTS];
        private int offers = 0;
        // The bits of the parts whose threads are one longer, in order; one part may be there more than once.
        private final long[] chosen = new long[MOST_LONGER];
        private int choices = 0;
        // Of each watched pair: which threads change the height of the first alone, which that of the second alone.
        private final long[] firstAlone = new long[MOST_PAIRS];
        private final long[] secondAlone = new long[MOST_PAIRS];
        private final int[] apart = new int[MOST_PAIRS];
        private int pairs = 0;
        private int latest = 0;
        private int tries = 0;

        void begin() {
            offers = 0;
            choices = 0;
            pairs = 0;
            latest = 0;
            tries = 0;
        }

        // Parts come by number.
        void offer(Part part) {
            if (offers < offered.length && part.thread < MOST_THREAD) {
                offered[offers] = part;
                longer[offers] = 0;
                offers++;
            }
        }

        void watch(Part first, Part second) {
            if (pairs < MOST_PAIRS) {
                firstAlone[pairs] = first.path & ~second.path;
                secondAlone[pairs] = second.path & ~first.path;
                apart[pairs] = first.height - second.height;
                pairs++;
            }
        }

        int search(int total) {
            return lengthen(0, total);
        }

        // Ever the part with the least number first, so that the choices come in the order of CLEARED.
        private int lengthen(int from, int more) {
            if (more <= 0 || choices >= chosen.length) {
                return more > 0 ? GO_ON : look();
            }
            for (int i = from; i < offers; i++) {
                if (offered[i].thread + longer[i] < MOST_THREAD) {
                    chosen[choices] = offered[i].bit();
                    choices++;
                    longer[i]++;
                    int ended = lengthen(i, more - 1);
                    choices--;
                    if (ended != GO_ON) {
                        return ended;
                    }
                    longer[i]--;
                }
            }
            return GO_ON;
        }

        private int look() {
            if (tries >= MOST_TRIES) {
                return SPENT;
            }
            tries++;
            // The pair that met in the try before is the likeliest to meet again.
            for (int i = latest; i < pairs; i++) {
                if (doMeet(i)) {
                    latest = i;
                    return GO_ON;
                }
            }
            for (int i = 0; i < latest && i < pairs; i++) {
                if (doMeet(i)) {
                    latest = i;
                    return GO_ON;
                }
            }
            return FOUND;
        }

        private boolean doMeet(int pair) {
            int now = apart[pair];
            for (int i = 0; i < choices; i++) {
                if ((firstAlone[pair] & chosen[i]) != 0) {
                    now++;
                } else if ((secondAlone[pair] & chosen[i]) != 0) {
                    now--;
                }
            }
            return now == 0;
        }

        void lengthenThreads() {
            for (int i = 0; i < offers; i++) {
                offered[i].thread += longer[i];
            }
        }
    }

    // The search for WAYS. Level rods part the sum of all numbers among the places in one way alone, so that a WAY
    // is a chain of sets of the numbers, each inside the next, with the sums that the places up to each must have.
    private static final class Parting {
        private final int[] value = new int[MOST_PARTED];
        private int numbers = 0;
        // What the places before each must bear in all.
        private final int[] before = new int[MOST_PLACES + 1];
        private int places = 0;
        private boolean isWhole = true;
        // The sum of each set; NONE if the set has one of several like numbers without those ahead of it.
        private final int[] sum = new int[MOST_SETS];
        // What each set adds to a row of places, read as octal digits, if it goes one place on.
        private final int[] digits = new int[MOST_SETS];
        private final int[][] sets = new int[MOST_PLACES + 1][MOST_ALIKE];
        private final int[] setsMany = new int[MOST_PLACES + 1];
        private final int[] chains = new int[MOST_SETS];
        private final int[] first = new int[MOST_SETS];

        int count(Rod top, Tray tray) {
            takeNumbers(tray);
            places = 0;
            isWhole = true;
            before[0] = 0;
            share(top, sumOfNumbers(), 0);
            if (!isWhole) {
                return 0;
            }
            listSets();
            for (int place = 0; place < places; place++) {
                goOnFrom(place);
            }
            return chains[fullSet()];
        }

        int firstPlaceOf(int k) {
            return k >= 0 && k < numbers ? first[fullSet()] >> 3 * (numbers - 1 - k) & 7 : NONE;
        }

        private int fullSet() {
            return (1 << numbers) - 1;
        }

        private void takeNumbers(Tray tray) {
            numbers = Math.min(tray.many, MOST_PARTED);
            for (int i = 0; i < numbers; i++) {
                value[i] = (int) tray.at(i);
            }
        }

        private int sumOfNumbers() {
            int total = 0;
            for (int i = 0; i < numbers; i++) {
                total += value[i];
            }
            return total;
        }

        private void share(Rod rod, int total, int depth) {
            long scaled = (long) total * rod.arm(RIGHT);
            if (depth >= MOST_PLACES || rod.length <= 0 || scaled % rod.length != 0) {
                isWhole = false;
                return;
            }
            int leftTotal = (int) (scaled / rod.length);
            shareSide(rod.left, leftTotal, depth);
            shareSide(rod.right, total - leftTotal, depth);
        }

        private void shareSide(Part part, int total, int depth) {
            Rod rod = asRod(part);
            if (rod != null) {
                share(rod, total, depth + 1);
            } else if (places < MOST_PLACES) {
                before[places + 1] = before[places] + total;
                places++;
            }
        }

        private void listSets() {
            Arrays.fill(setsMany, 0);
            sum[0] = 0;
            digits[0] = 0;
            list(0);
            for (int i = 0; i < numbers; i++) {
                int bit = 1 << i;
                int ahead = likeAhead(i);
                for (int rest = 0; rest < bit; rest++) {
                    boolean inOrder = sum[rest] != NONE && (rest & ahead) == ahead;
                    sum[rest | bit] = inOrder ? sum[rest] + value[i] : NONE;
                    digits[rest | bit] = digits[rest] + (1 << 3 * (numbers - 1 - i));
                    if (inOrder) {
                        list(rest | bit);
                    }
                }
            }
            // The one chain so far has no number at a place.
            chains[0] = 1;
            first[0] = 0;
        }

        private int likeAhead(int i) {
            for (int j = i - 1; j >= 0; j--) {
                if (value[j] == value[i]) {
                    return 1 << j;
                }
            }
            return 0;
        }

        private void list(int set) {
            chains[set] = 0;
            for (int place = 0; place <= places; place++) {
                if (sum[set] == before[place] && setsMany[place] < MOST_ALIKE) {
                    sets[place][setsMany[place]] = set;
                    setsMany[place]++;
                }
            }
        }

        private void goOnFrom(int place) {
            for (int i = 0; i < setsMany[place]; i++) {
                int from = sets[place][i];
                for (int j = 0; chains[from] > 0 && j < setsMany[place + 1]; j++) {
                    int to = sets[place + 1][j];
                    if ((from & to) == from) {
                        extend(from, to, first[from] + place * (digits[to] - digits[from]));
                    }
                }
            }
        }

        private void extend(int from, int to, int row) {
            if (chains[to] == 0 || row < first[to]) {
                first[to] = row;
            }
            chains[to] += chains[from];
        }
    }

    // OUT.
    private static final class Text {
        private final byte[] kept = new byte[MOST_BYTES];
        private int bytes = 0;
        private final Rod[] open = new Rod[MOST_PARTS];
        private final int[] sidesTold = new int[MOST_PARTS];
        private int opened = 0;

        boolean has(int k) {
            return k >= 0 && k < bytes && k < kept.length;
        }

        int at(int k) {
            return has(k) ? kept[k] : NONE;
        }

        int tell(Part top) {
            bytes = 0;
            opened = 0;
            tellPart(top);
            // Each rod has its turn thrice: for its left side, for its right side, for its end.
            for (int turn = 0; turn < 3 * MOST_PARTS && opened > 0; turn++) {
                goOnWith(opened - 1);
            }
            return bytes;
        }

        private void goOnWith(int last) {
            Rod rod = open[last];
            int told = sidesTold[last];
            sidesTold[last]++;
            if (told == 0) {
                tellSide(rod.left);
            } else if (told == 1) {
                put(',');
                putNumber(rod.p);
                put('/');
                putNumber(rod.q);
                put(',');
                tellSide(rod.right);
            } else {
                put(')');
                opened--;
            }
        }

        private void tellSide(Part part) {
            if (part == null) {
                put('-');
                return;
            }
            putNumber(part.thread);
            put(':');
            tellPart(part);
        }

        private void tellPart(Part part) {
            Rod rod = asRod(part);
            if (rod != null && opened < open.length) {
                put('(');
                open[opened] = rod;
                sidesTold[opened] = 0;
                opened++;
                return;
            }
            if (part.kind == PLATE) {
                put('p');
            }
            putNumber(part.own);
        }

        private void putNumber(int number) {
            boolean begun = false;
            for (int unit = 1000000000; unit > 0; unit /= 10) {
                int digit = number / unit % 10;
                begun = begun || digit != 0 || unit == 1;
                if (begun) {
                    put((char) ('0' + digit));
                }
            }
        }

        private void put(char sign) {
            if (bytes < kept.length) {
                kept[bytes] = (byte) sign;
            }
            bytes++;
        }
    }
}
