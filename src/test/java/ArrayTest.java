/** Promise 4: array. */
public final class ArrayTest {
    public static void main(String[] args) {
        sizes();
        wrongInputs();
        blocksOneByOne();
        noSpine();
        noLeaf();
        noLeafGreysTheSpine();
        Check.end();
    }

    private static void sizes() {
        int[][] sizes = { // size, leaves, class of the spine, ticks
            {32, 1, 0, 11}, {33, 2, 0, 20}, {96, 3, 0, 29}, {97, 4, 1, 39}, {224, 7, 1, 66}, {225, 8, 2, 77},
            {480, 15, 2, 140}, {481, 16, 3, 153}, {512, 16, 3, 153}};
        for (int[] s : sizes) {
            BeatHeap x = new BeatHeap();
            x.begin(64, 1, 1, 0);
            String call = "array(5, " + s[0] + ")";
            Check.due(call, x.array(5, s[0]), 1);
            Check.due(call + ": root(5, 0)", x.root(5, 0), 0);
            Check.due(call + ": root(5, 1)", x.root(5, 1), s[1]);
            Check.due(call + ": root(5, 2)", x.root(5, 2), s[0]);
            Check.due(call + ": root(5, 4)", x.root(5, 4), 1);
            Check.due(call + ": page(0, 0)", x.page(0, 0), s[2]);
            Check.counts(call, x, 1, s[3], 7, s[1] + 1);
            int first = s[2] == 3 ? 32 : 64;
            for (int i = 0; i < s[1]; i++) {
                Check.due(call + ": leaf " + i, x.word(1 + i), first + 32 * i + 1);
            }
            Check.due(call + ": word(0)", x.word(0), 0);
            Check.due(call + ": reachable()", x.reachable(), s[1] + 1);
        }
    }

    private static void wrongInputs() {
        BeatHeap x = new BeatHeap();
        x.begin(4, 1, 1, 4);
        int[][] bad = {{-1, 32}, {16, 32}, {0, 31}, {0, 513}, {0, 0}, {0, -1}, {0, Integer.MIN_VALUE},
            {0, Integer.MAX_VALUE}, {Integer.MIN_VALUE, 32}, {Integer.MAX_VALUE, 32}};
        for (int[] a : bad) {
            Check.due("array " + java.util.Arrays.toString(a), x.array(a[0], a[1]), -1);
        }
        Check.counts("array() refused", x, 0, 0, 3, 0, 7, 0, 10, 0);
    }

    /** A cycle that the spine's page starts goes on behind each leaf. */
    private static void blocksOneByOne() {
        BeatHeap x = new BeatHeap();
        x.begin(8, 9, 4, 7);
        Check.due("array(0, 96)", x.array(0, 96), 1);
        // The spine's 2 ticks are at rest; behind each leaf's 9 come 4 steps.
        Check.counts("one by one", x, 0, 41, 1, 29, 2, 12, 3, 1, 5, 9, 8, 1);
        Check.due("one by one: the spine is grey by root 0", x.root(0, 3), 1);
        Check.due("one by one: share(9)", x.share(9), 5);
        Check.due("one by one: leaves are marked", x.page(1, 2) + x.page(2, 2), 3);
        x.idle(9);
        Check.counts("one by one, idle(9)", x, 2, 16, 3, 2, 8, 1, 11, -1);
        x.idle(9);
        Check.counts("one by one, idle(18)", x, 2, 20, 3, 2, 8, 0, 11, 0);
    }

    private static void noSpine() {
        BeatHeap x = new BeatHeap();
        x.begin(4, 200, 1, 0);
        for (int n = 0; n < 8; n++) {
            x.make(n, 0, 31);
        }
        Check.due("no spine", x.array(2, 32), 0);
        Check.due("no spine: the root stays", x.root(2, 0), 64);
        Check.counts("no spine", x, 1, 72, 3, 1, 8, 0, 10, 1);
    }

    private static void noLeaf() {
        BeatHeap x = new BeatHeap();
        x.begin(4, 200, 200, 0);
        x.make(1, 0, 3);
        Check.due("no leaf", x.array(1, 512), 0);
        Check.due("no leaf: the root is NULL", x.root(1, 0), -1);
        // One page for the object, six blocks of class 3: the spine and five leaves.
        Check.counts("no leaf", x, 1, 56, 3, 1, 6, 0, 7, 7, 10, 1);
        Check.due("no leaf: reachable()", x.reachable(), 0);
        // The root lost the spine in ROOTS: it and its leaves outlive this cycle, but not the next one.
        x.idle(200);
        Check.counts("no leaf, a cycle later", x, 2, 56, 3, 0, 4, 1, 6, 1, 7, 6, 9, 1);
        x.start();
        x.idle(200);
        Check.counts("no leaf, two cycles later", x, 3, 0, 4, 2, 6, 4, 7, 0, 9, 7);
    }

    /** The spine was taken at rest, so it has no mark; the root that loses it in ROOTS greys it. */
    private static void noLeafGreysTheSpine() {
        BeatHeap x = new BeatHeap();
        x.begin(4, 200, 1, 3);
        Check.due("no leaf in ROOTS", x.array(0, 512), 0);
        Check.counts("no leaf in ROOTS", x, 3, 1, 1, 72, 2, 0, 5, 137, 8, 1, 10, 1);
        Check.due("no leaf in ROOTS: page(0, 2)", x.page(0, 2), 2);
    }
}
