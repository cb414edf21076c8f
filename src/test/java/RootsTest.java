/** Promises 9, 10 and 13: move, drop, root. */
public final class RootsTest {
    private static final int MIN = Integer.MIN_VALUE;
    private static final int MAX = Integer.MAX_VALUE;

    public static void main(String[] args) {
        moves();
        drops();
        greysTheOld();
        noGreyAtRestOrInSweep();
        looks();
        Check.end();
    }

    private static void moves() {
        BeatHeap x = new BeatHeap();
        x.make(0, 0, 3);
        x.make(1, 0, 3);
        Check.due("move(1, 15)", x.move(1, 15), true);
        Check.due("root(15, 0)", x.root(15, 0), 4);
        Check.due("root(1, 0)", x.root(1, 0), 4);
        Check.due("move(of NULL, 0)", x.move(7, 0), true);
        Check.due("root(0, 0)", x.root(0, 0), -1);
        Check.due("move(1, 1)", x.move(1, 1), true);
        Check.due("root(1, 0) once more", x.root(1, 0), 4);
        Check.counts("move()", x, 0, 7);
        int[][] bad = {{-1, 0}, {0, -1}, {16, 0}, {0, 16}, {MIN, 1}, {1, MIN}, {MAX, 1}, {1, MAX}};
        for (int[] a : bad) {
            Check.due("move " + a[0] + ", " + a[1], x.move(a[0], a[1]), false);
        }
        Check.counts("move() refused", x, 0, 7);
    }

    private static void drops() {
        BeatHeap x = new BeatHeap();
        x.make(15, 0, 3);
        Check.due("drop(15)", x.drop(15), true);
        Check.due("root(15, 0)", x.root(15, 0), -1);
        Check.due("drop(15) of NULL", x.drop(15), true);
        Check.counts("drop()", x, 0, 4, 7, 1);
        for (int root : new int[] {-1, 16, MIN, MAX}) {
            Check.due("drop(" + root + ")", x.drop(root), false);
        }
        Check.counts("drop() refused", x, 0, 4);
    }

    private static void greysTheOld() {
        BeatHeap x = new BeatHeap();
        x.make(0, 0, 3);
        x.make(1, 0, 3);
        x.make(2, 0, 3);
        x.start();
        x.move(0, 0);
        Check.counts("move(0, 0) in ROOTS", x, 8, 1);
        x.move(0, 1);
        Check.counts("move(0, 1) in ROOTS", x, 8, 2);
        x.drop(2);
        Check.counts("drop(2) in ROOTS", x, 8, 3);
        Check.due("all are marked", x.page(0, 2), 3);
        // Credit 17 is left, then ten steps for each 20 ticks: all three outlive the cycle.
        x.idle(500);
        Check.counts("behind the cycle", x, 3, 0, 4, 1, 7, 3, 9, 0);
        Check.due("no mark stays", x.page(0, 2), 0);
        x.start();
        x.idle(500);
        Check.counts("behind the next one", x, 4, 2, 7, 1, 9, 2);
    }

    private static void noGreyAtRestOrInSweep() {
        BeatHeap x = new BeatHeap();
        x.begin(8, 1, 1, 0);
        x.make(0, 0, 3);
        x.make(1, 0, 3);
        x.drop(0);
        Check.counts("drop() at rest", x, 8, 0);
        x.start();
        x.idle(17);
        Check.counts("17 steps", x, 3, 2, 8, 0, 11, 4);
        x.idle(1);
        Check.counts("SWEEP", x, 3, 3, 8, 0, 11, -1, 12, 0);
        x.idle(1);
        Check.counts("the first is free", x, 3, 3, 7, 1, 9, 1, 12, 4);
        x.move(1, 1);
        Check.counts("the second is so no more", x, 3, 3, 7, 1, 8, 0, 12, 8);
        Check.due("it is not greyed", x.root(1, 3), 0);
        x.drop(1);
        Check.counts("drop() in SWEEP", x, 3, 3, 8, 0);
        Check.due("none is marked", x.page(0, 2), 0);
    }

    private static void looks() {
        BeatHeap x = new BeatHeap();
        x.make(0, 5, 6);
        x.array(1, 100);
        int[] object = {0, 5, 6, 0, 0};
        int[] array = {64, 4, 100, 0, 1};
        for (int what = 0; what < 5; what++) {
            Check.due("root(0, " + what + ")", x.root(0, what), object[what]);
            Check.due("root(1, " + what + ")", x.root(1, what), array[what]);
            for (int root : new int[] {2, -1, 16, MIN, MAX}) {
                Check.due("root(" + root + ", " + what + ")", x.root(root, what), -1);
            }
        }
        for (int what : new int[] {-1, 5, MIN, MAX}) {
            Check.due("root(0, " + what + ")", x.root(0, what), -1);
        }
        x.start();
        x.idle(20);
        Check.due("root(0, 3) marked", x.root(0, 3), 1);
        Check.due("root(1, 3) marked", x.root(1, 3), 1);
        Check.counts("looks take nothing", x, 1, 5 + 3 + 4 * 9 + 20);
    }
}
