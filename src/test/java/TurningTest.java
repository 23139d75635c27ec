/** Promises 24 to 28: reach, lowest, clash, clashes, clear. */
public final class TurningTest {
    public static void main(String[] args) {
        reach();
        lowest();
        clash();
        meetingAtTheEdge();
        clashes();
        clear();
        clearInOrder();
        clearWithinThreads();
        clearBeyondOneThread();
        clearSpent();
        Due.end();
    }

    private static void reach() {
        MobileMaker x = new MobileMaker();
        int top = x.rod(10, 0, false);
        int next = x.rod(9, 0, false);
        int last = x.rod(2, 0, true);
        int w = x.weight(1);
        x.hang(next, top, 1, 1);
        x.hang(last, next, 0, 1);
        x.hang(w, last, 1, 1);
        x.tied(top, 3, 10);
        Due.none(x, "no part", x.reach(4, top, true), 2);
        Due.none(x, "no rod at all", x.reach(w, -1, true), 2);
        Due.none(x, "a weight is no rod", x.reach(w, w, true), 5);
        Due.none(x, "not above", x.reach(top, w, true), 5);
        Due.none(x, "not above", x.reach(next, last, true), 8);
        Due.none(x, "not above itself", x.reach(next, next, false), 8);
        Due.none(x, "an arm of 9 / 2", x.reach(w, top, true), 9);
        Due.fine(x, "not on the way", x.reach(next, top, true), 7);
        Due.fine(x, "one arm alone", x.reach(next, top, false), 7);
        x.tied(next, 2, 9);
        Due.fine(x, "7 and 2 and 1", x.reach(w, top, true), 10);
        Due.fine(x, "7 less 2 less 1", x.reach(w, top, false), 4);
        x.tied(next, 7, 9);
        Due.fine(x, "7 and 7 and 1", x.reach(w, top, true), 15);
        Due.fine(x, "no less than 0", x.reach(w, top, false), 0);
        Due.fine(x, "7 and 1", x.reach(w, next, true), 8);
        Due.fine(x, "7 less 1", x.reach(w, next, false), 6);
        Due.fine(x, "from the last", x.reach(w, last, false), 1);
        int apart = x.rod(4, 0, false);
        Due.none(x, "of another mobile", x.reach(w, apart, false), 8);
        x.tied(next, 14, 18);
        Due.fine(x, "whole, not in lowest terms", x.reach(last, next, true), 7);
    }

    private static void lowest() {
        MobileMaker x = new MobileMaker();
        int w = x.weight(1);
        int top = x.rod(10, 0, false);
        int second = x.weight(1);
        Due.none(x, "no part", x.lowest(3), 2);
        Due.fine(x, "itself", x.lowest(top), top);
        x.hang(second, top, 0, 4);
        x.hang(w, top, 1, 4);
        Due.none(x, "it hangs", x.lowest(w), 8);
        Due.fine(x, "the first of these", x.lowest(top), w);
        x.thread(second, 5);
        Due.fine(x, "the lower one", x.lowest(top), second);
    }

    /** Rod 0 of length 4 bears rods 1 and 2 of length 4, those weights 3 to 6, all as low. */
    private static MobileMaker four() {
        MobileMaker x = new MobileMaker();
        for (int i = 0; i < 3; i++) {
            x.rod(4, 0, false);
        }
        for (int i = 0; i < 4; i++) {
            x.weight(1);
        }
        x.hang(1, 0, 0, 3);
        x.hang(2, 0, 1, 3);
        for (int i = 0; i < 4; i++) {
            x.hang(3 + i, 1 + i / 2, i % 2, 2);
        }
        return x;
    }

    private static void clash() {
        MobileMaker x = four();
        int lone = x.weight(1);
        int third = x.rod(9, 0, false);
        Due.none(x, "no part", x.clash(3, 9), 2);
        Due.none(x, "no part", x.clash(-1, 3), 2);
        Due.none(x, "one twice", x.clash(3, 3), 2);
        Due.none(x, "one rod twice", x.clash(0, 0), 2);
        Due.none(x, "a rod", x.clash(3, 0), 5);
        Due.none(x, "a rod", x.clash(0, 3), 5);
        Due.none(x, "not of one mobile", x.clash(3, lone), 8);
        x.hang(lone, third, 0, 5);
        Due.none(x, "not of one mobile", x.clash(lone, 4), 8);
        Due.fine(x, "on one rod", x.clash(3, 4), 0);
        Due.fine(x, "they meet", x.clash(3, 5), 1);
        Due.fine(x, "they meet", x.clash(6, 4), 1);
        x.tied(0, 1, 3);
        Due.fine(x, "the last rod's own arms are not asked", x.clash(4, 5), 1);
        x.tied(2, 1, 3);
        Due.none(x, "an arm is not whole", x.clash(4, 5), 9);
        Due.none(x, "an arm is not whole", x.clash(5, 4), 9);
        Due.fine(x, "that arm is not on the way", x.clash(3, 4), 0);
        x.thread(3, 3);
        Due.none(x, "ahead of heights", x.clash(3, 5), 9);
        x.tied(2, 1, 2);
        Due.fine(x, "not as low", x.clash(3, 5), 0);
    }

    /** How far arms of 1 to 9 come to one another across a rod. */
    private static void meetingAtTheEdge() {
        for (int length = 2; length <= 12; length++) {
            MobileMaker x = new MobileMaker();
            int top = x.rod(length, 0, false);
            int one = x.rod(10, 0, false);
            int other = x.rod(10, 0, false);
            int a = x.weight(1);
            int b = x.weight(1);
            int c = x.weight(1);
            x.hang(one, top, 0, 1);
            x.hang(a, one, 0, 1);
            x.hang(b, top, 1, 2);
            for (int arm = 1; arm < 10; arm++) {
                x.tied(one, arm, 10);
                Due.fine(x, arm + " to the end of " + length, x.clash(a, b), arm == length ? 1 : 0);
            }
            x.take(b);
            x.hang(other, top, 1, 1);
            x.hang(c, other, 1, 1);
            for (int arm = 1; arm < 10; arm++) {
                for (int far = 1; far < 10; far++) {
                    x.tied(one, arm, 10);
                    x.tied(other, 10 - far, 10);
                    boolean near = arm + far >= length && Math.abs(arm - far) <= length;
                    if (length % 5 == 2 || arm == far) {
                        Due.fine(x, arm + " and " + far + " on " + length, x.clash(c, a), near ? 1 : 0);
                    }
                }
            }
        }
    }

    private static void clashes() {
        MobileMaker x = four();
        Due.none(x, "no part", x.clashes(7), 2);
        Due.none(x, "it hangs", x.clashes(1), 8);
        Due.fine(x, "all pairs across", x.clashes(0), 4);
        x.thread(3, 3);
        Due.fine(x, "without the lower one's", x.clashes(0), 2);
        x.tied(0, 1, 3);
        Due.none(x, "an arm of the top is not whole", x.clashes(0), 9);
        Due.none(x, "clear as well", x.clear(0), 9);
        int lone = x.weight(1);
        Due.fine(x, "a weight alone", x.clashes(lone), 0);
        Due.fine(x, "a weight alone", x.clear(lone), 0);
        int bare = x.rod(3, 0, false);
        Due.none(x, "a rod alone", x.clashes(bare), 9);
    }

    private static void clear() {
        MobileMaker x = four();
        Due.none(x, "no part", x.clear(7), 2);
        Due.none(x, "it hangs", x.clear(1), 8);
        Due.fine(x, "clear", x.clear(0), 1);
        int[] threads = {0, 4, 3, 2, 2, 2, 2};
        for (int i = 0; i < threads.length; i++) {
            Due.fine(x, "thread of " + i, x.part(i, 4), threads[i]);
        }
        Due.fine(x, "none is left", x.clashes(0), 0);
        Due.fine(x, "nothing to do", x.clear(0), 0);
        Due.fine(x, "nothing done", x.part(1, 4), 4);
        Due.fine(x, "nothing done", x.part(3, 4), 2);
    }

    /** The same with weights that have the lesser numbers. */
    private static void clearInOrder() {
        MobileMaker x = new MobileMaker();
        int a = x.weight(1);
        int b = x.weight(1);
        int left = x.rod(6, 0, false);
        int right = x.rod(6, 0, false);
        int top = x.rod(4, 0, false);
        x.hang(left, top, 0, 1);
        x.hang(right, top, 1, 1);
        x.hang(a, left, 0, 1);
        x.hang(b, right, 0, 1);
        Due.fine(x, "one pair", x.clashes(top), 1);
        Due.fine(x, "clear", x.clear(top), 1);
        Due.fine(x, "the first part's thread", x.part(a, 4), 2);
        Due.fine(x, "no other", x.part(b, 4) + x.part(left, 4) + x.part(right, 4), 3);
        x.thread(a, 1000);
        x.thread(b, 1000);
        Due.fine(x, "where the first ones can't", x.clear(top), 1);
        Due.fine(x, "the next one's", x.part(left, 4), 2);
        x.thread(left, 1000);
        x.thread(right, 1000);
        Due.none(x, "where none can", x.clear(top), 11);
        x.thread(right, 999);
        x.thread(b, 1000);
        x.thread(a, 999);
        Due.fine(x, "to 1000", x.clear(top), 1);
        Due.fine(x, "to 1000", x.part(a, 4), 1000);
    }

    /** Two threads that can be one longer each, for two pairs of rods. */
    private static void clearWithinThreads() {
        MobileMaker x = four();
        for (int i = 1; i < 7; i++) {
            x.thread(i, 1000);
        }
        x.thread(3, 999);
        x.thread(4, 999);
        x.thread(5, 999);
        Due.fine(x, "two pairs meet", x.clashes(0), 2);
        Due.fine(x, "one is enough", x.clear(0), 1);
        Due.fine(x, "that of the two which meet", x.part(5, 4), 1000);
        Due.none(x, "no part has room but 3 and 4", x.clash(3, 0), 5);
        Due.fine(x, "5 and 6 are as low now", x.part(6, 4), 1000);
        Due.fine(x, "and no other", x.clashes(0), 0);
    }

    /** One weight that meets others as low and one lower: it would have to be two lower, its thread can be one longer. */
    private static void clearBeyondOneThread() {
        for (int thread = 998; thread <= 1000; thread++) {
            Both b = new Both("thread of " + thread);
            int w = b.weight(1);
            int top = b.rod(2, 0, false);
            int left = b.rod(1000, 0, false);
            int right = b.rod(1000, 0, false);
            b.hang(w, left, 0, thread);
            b.hang(left, top, 0, 1001 - thread);
            b.hang(right, top, 1, 2);
            int[][] threads = {{998, 999}, {998, 997}};
            for (int end = 0; end < 2; end++) {
                int rod = b.rod(2, 0, false);
                b.hang(rod, right, end, 1);
                b.hang(b.weight(1), rod, 0, threads[end][0]);
                b.hang(b.weight(1), rod, 1, threads[end][1]);
            }
            Due.is("two meet with the one", b.clashes(top), 2);
            Due.is("two in all", b.clear(top), 2);
            Due.is("its thread", b.part(w, 4), 1000);
            b.whole();
            Due.is("none is left", b.clashes(top), 0);
        }
    }

    /** Five rods of which no two weights may be as low, with one weight each and so many more, one lower. */
    private static Both crowd(int more) {
        Both b = new Both("crowd of " + more);
        int[] upper = new int[4];
        for (int i = 0; i < 4; i++) {
            upper[i] = b.rod(2, 0, false);
        }
        b.hang(upper[1], upper[0], 0, 2);
        b.hang(upper[2], upper[0], 1, 1);
        b.hang(upper[3], upper[2], 1, 1);
        int[][] at = {{1, 0, 1}, {1, 1, 1}, {2, 0, 2}, {3, 0, 1}, {3, 1, 1}};
        for (int i = 0; i < 5; i++) {
            int rod = b.rod(8, 0, false);
            b.hang(rod, upper[at[i][0]], at[i][1], at[i][2]);
            b.hang(b.weight(1), rod, 0, 1);
            if (i < more) {
                b.hang(b.weight(1), rod, 1, 2);
            }
        }
        return b;
    }

    private static void clearSpent() {
        for (int more = 0; more <= 1; more++) {
            Both b = crowd(more);
            Due.is("clear with " + (13 + more) + " threads", b.clear(0), 5);
            b.whole();
        }
        for (int more = 2; more <= 5; more++) {
            Both b = crowd(more);
            b.clashes(0);
            Due.is("clear with " + (13 + more) + " threads", b.clear(0), -1);
            // 15 threads have 15504 choices up to 5, 16 have 20349.
            Due.is("STATUS with " + (13 + more) + " threads", b.x.status(), 13 + more < 16 ? 11 : 10);
            b.whole();
        }
    }
}
