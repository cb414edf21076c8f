/** Promise 3: make. */
public final class MakeTest {
    public static void main(String[] args) {
        classesAndTicks();
        wrongInputs();
        leastAddress();
        noBlock();
        rootIsGreyedAndNewIsMarked();
        sameInMark();
        newIsEmpty();
        Check.end();
    }

    private static void classesAndTicks() {
        int[][] sizes = { // pointers, numbers, class, ticks
            {1, 0, 0, 2}, {0, 1, 0, 2}, {1, 2, 0, 2}, {3, 0, 0, 2}, {2, 2, 1, 3}, {0, 7, 1, 3}, {4, 4, 2, 5},
            {15, 0, 2, 5}, {0, 16, 3, 9}, {31, 0, 3, 9}, {0, 31, 3, 9}, {15, 16, 3, 9}};
        for (int[] s : sizes) {
            BeatHeap x = new BeatHeap();
            String call = "make(3, " + s[0] + ", " + s[1] + ")";
            Check.due(call, x.make(3, s[0], s[1]), 1);
            Check.due(call + ": page(0, 0)", x.page(0, 0), s[2]);
            Check.counts(call, x, 0, s[3], 1, s[3], 2, 0, 6, 15, 7, 1);
            Check.due(call + ": root(3, 1)", x.root(3, 1), s[0]);
            Check.due(call + ": root(3, 2)", x.root(3, 2), s[1]);
            Check.due(call + ": root(3, 4)", x.root(3, 4), 0);
        }
    }

    private static void wrongInputs() {
        BeatHeap x = new BeatHeap();
        x.begin(4, 1, 1, 4);
        int[][] bad = {{-1, 1, 1}, {16, 1, 1}, {0, 0, 0}, {0, -1, 2}, {0, 2, -1}, {0, 32, 0}, {0, 0, 32}, {0, 16, 16},
            {0, 32, -1}, {0, Integer.MAX_VALUE, Integer.MAX_VALUE}, {0, Integer.MIN_VALUE, Integer.MIN_VALUE},
            {Integer.MIN_VALUE, 1, 1}, {Integer.MAX_VALUE, 1, 1}};
        for (int[] a : bad) {
            Check.due("make " + java.util.Arrays.toString(a), x.make(a[0], a[1], a[2]), -1);
        }
        Check.counts("make() refused", x, 0, 0, 3, 0, 6, 4, 7, 0, 10, 0);
    }

    private static void leastAddress() {
        BeatHeap x = new BeatHeap();
        x.make(0, 0, 7);
        x.make(1, 0, 3);
        x.make(2, 0, 7);
        x.make(3, 0, 31);
        x.make(4, 0, 3);
        int[] want = {0, 64, 8, 128, 68};
        for (int root = 0; root < want.length; root++) {
            Check.due("least address: root(" + root + ", 0)", x.root(root, 0), want[root]);
        }
        x.drop(0);
        x.drop(1);
        x.start();
        x.idle(200);
        Check.counts("two dropped", x, 3, 0, 4, 1, 7, 3, 9, 2);
        x.make(5, 0, 4);
        x.make(6, 1, 1);
        x.make(7, 1, 1);
        x.make(8, 0, 20);
        Check.due("freed block again: root(5, 0)", x.root(5, 0), 0);
        Check.due("freed block again: root(6, 0)", x.root(6, 0), 64);
        Check.due("next block: root(7, 0)", x.root(7, 0), 72);
        Check.due("next block: root(8, 0)", x.root(8, 0), 160);
    }

    private static void noBlock() {
        BeatHeap x = new BeatHeap();
        x.begin(4, 200, 1, 0);
        for (int n = 0; n < 8; n++) {
            Check.due("large object", x.make(n, 0, 31), 1);
        }
        Check.counts("full", x, 1, 72, 3, 1, 5, 191, 6, 0, 10, 0);
        Check.due("no block", x.make(7, 1, 0), 0);
        Check.due("no block: the root stays", x.root(7, 0), 224);
        Check.due("no block once more", x.make(3, 0, 31), 0);
        Check.due("no block once more: the root stays", x.root(3, 0), 96);
        Check.due("no block: it is not greyed", x.root(3, 3), 0);
        Check.counts("no block", x, 1, 72, 3, 1, 5, 191, 7, 8, 8, 0, 10, 2);
    }

    private static void rootIsGreyedAndNewIsMarked() {
        BeatHeap x = new BeatHeap();
        x.make(0, 0, 1);
        x.make(1, 0, 1);
        Check.due("at rest: root(0, 3)", x.root(0, 3), 0);
        x.start();
        x.make(0, 0, 1);
        Check.due("in ROOTS: root(0, 0)", x.root(0, 0), 8);
        Check.due("in ROOTS: root(0, 3)", x.root(0, 3), 1);
        Check.due("in ROOTS: root(1, 3)", x.root(1, 3), 0);
        Check.due("in ROOTS: page(0, 2)", x.page(0, 2), 2);
        Check.counts("in ROOTS", x, 8, 1);
        x.make(0, 0, 1);
        Check.counts("in ROOTS, a marked one lost", x, 8, 1, 5, 16);
    }

    private static void sameInMark() {
        BeatHeap x = new BeatHeap();
        x.begin(8, 2, 2, 0);
        x.make(0, 1, 0);
        x.make(1, 0, 1);
        x.link(0, 0, 1);
        x.drop(1);
        x.start();
        x.idle(16);
        Check.counts("MARK begins", x, 3, 2, 8, 1, 11, -1);
        x.make(2, 0, 1);
        Check.due("in MARK: root(2, 3)", x.root(2, 3), 1);
        Check.counts("in MARK: a new one is not on the pile", x, 3, 2, 8, 1, 11, 0);
    }

    private static void newIsEmpty() {
        BeatHeap x = new BeatHeap();
        x.make(0, 1, 2);
        x.put(0, 0, 7);
        x.put(0, 1, -8);
        x.link(0, 0, 0);
        x.drop(0);
        x.start();
        x.idle(200);
        x.make(0, 2, 1);
        Check.due("same block", x.root(0, 0), 0);
        for (int w = 0; w < 4; w++) {
            Check.due("new: word(" + w + ")", x.word(w), 0);
        }
    }
}
