import java.util.Arrays;

/** The boundary cases that promises 1 to 12 name: a test for each sentence. */
public final class DoingEdgesTest {
    private static final int MIN = Integer.MIN_VALUE;
    private static final int MAX = Integer.MAX_VALUE;

    public static void main(String[] args) {
        newObject();
        beginAllAsAtFirst();
        beginLeastAndMost();
        beginRefused();
        beginRefusedForOne();
        makeNoBlock();
        makeNoBlockInEachPart();
        makeRefused();
        arrayBlockByBlock();
        arrayJustFits();
        arrayNoSpine();
        arrayNoFirstLeaf();
        arrayNoLastLeaf();
        arrayNoLeafInSweep();
        arrayRefused();
        putFirstAndLast();
        putAnyValue();
        putRefused();
        getOfNothing();
        linkNone();
        linkFirstAndLast();
        linkRefused();
        followFirstAndLast();
        followRefused();
        moveEdges();
        moveRefused();
        dropEdges();
        idleLeastAndMost();
        idleRefused();
        startTakesNothing();
        startRefusedInEachPart();
        Check.end();
    }

    /** What can be seen of a heap in some 170 calls, so that two looks can be set beside each other. */
    private static String all(BeatHeap x) {
        StringBuilder text = new StringBuilder();
        for (int what = 0; what < 13; what++) {
            text.append(x.count(what)).append(' ');
        }
        for (int root = 0; root < 16; root++) {
            for (int what = 0; what < 5; what++) {
                text.append(x.root(root, what)).append(' ');
            }
        }
        for (int page = 0; page < 4; page++) {
            for (int what = 0; what < 3; what++) {
                text.append(x.page(page, what)).append(' ');
            }
            for (int word = 0; word < 16; word++) {
                text.append(x.word(64 * page + word)).append(' ');
            }
        }
        return text.append(x.share(1)).append(' ').append(x.reachable()).append(x.whole()).toString();
    }

    private static BeatHeap full(int program, int collector) {
        BeatHeap x = Check.heap(4, program, collector, 0);
        for (int root = 0; root < 8; root++) {
            Check.due("make(" + root + ", 0, 31)", x.make(root, 0, 31), 1);
        }
        return x;
    }

    private static void newObject() {
        Check.sentence("As behind begin(16, 20, 10, 4).");
        BeatHeap x = new BeatHeap();
        BeatHeap y = Check.heap(16, 20, 10, 4);
        Check.due("the same at first", all(x).equals(all(y)), true);
        Check.due("16 pages: word(1023)", x.word(1023), 0);
        Check.due("16 pages: word(1024)", x.word(1024), -1);
        Check.due("16 pages: page(15, 1)", x.page(15, 1), 0);
        Check.due("16 pages: page(16, 1)", x.page(16, 1), -1);
        Check.counts("16 pages", x, 6, 16);
        for (int n = 0; n < 22; n++) {
            x.make(n % 16, 0, 31);
        }
        Check.counts("5 FREE pages", x, 6, 5, 3, 0);
        x.make(0, 0, 31);
        Check.counts("4 FREE pages: the trigger", x, 6, 4, 3, 1, 5, 20);
        x.idle(19);
        Check.counts("19 ticks", x, 2, 0, 5, 1);
        x.idle(1);
        Check.counts("20 ticks: 10 steps", x, 2, 10, 5, 20);
    }

    private static void beginAllAsAtFirst() {
        Check.sentence("All is as at first: so many pages, the program's quantum and the collector's (1 .. 200 each), "
                + "the trigger (0 .. pages).");
        for (int steps = 0; steps <= 60; steps += 5) {
            BeatHeap x = Check.heap(4, 1, 1, 0);
            x.make(0, 0, 3);
            x.make(0, 3, 0);
            x.array(1, 64);
            x.put(1, 63, -1);
            x.link(0, 0, 1);
            x.start();
            x.idle(1 + steps);
            // 16 roots, 7 steps of MARK, SWEEP begins; the first of 18 blocks is the lost object.
            Check.counts(steps + " steps", x, 4, steps < 41 ? 0 : 1, 9, steps < 24 ? 0 : 1);
            x.begin(5, 3, 2, 0);
            Check.due("begin() behind " + steps + " steps", all(x).equals(all(Check.heap(5, 3, 2, 0))), true);
            Check.due("share(1)", x.share(1), -1);
            BeatHeap y = Check.heap(5, 3, 2, 0);
            for (BeatHeap h : new BeatHeap[] {x, y}) {
                h.make(2, 1, 1);
                h.link(2, 0, 2);
                h.start();
                h.idle(20);
            }
            Check.due("a run behind it", all(x).equals(all(y)), true);
        }
        BeatHeap x = full(200, 1);
        x.make(9, 0, 31);
        x.begin(4, 1, 1, 0);
        Check.counts("full before", x, 0, 0, 3, 0, 6, 4, 7, 0, 10, 0);
        x = Check.heap(64, 1, 1, 0);
        x.begin(4, 1, 1, 0);
        Check.due("fewer pages than before: word(256)", x.word(256), -1);
        Check.due("fewer pages than before: page(4, 1)", x.page(4, 1), -1);
        Check.due("fewer pages than before: array(0, 512)", x.array(0, 512), 0);
    }

    private static void beginLeastAndMost() {
        Check.sentence("so many pages, the program's quantum and the collector's (1 .. 200 each), the trigger (0 .. pages)");
        int[][] good = {{4, 1, 1, 0}, {64, 1, 1, 0}, {4, 200, 1, 0}, {4, 1, 200, 0}, {4, 1, 1, 4}, {64, 1, 1, 64},
            {64, 200, 200, 64}, {5, 2, 2, 1}, {63, 199, 199, 62}};
        for (int[] a : good) {
            BeatHeap x = new BeatHeap();
            Check.due("begin " + Arrays.toString(a), x.begin(a[0], a[1], a[2], a[3]), true);
            Check.counts("begin " + Arrays.toString(a), x, 6, a[0], 3, 0);
            x.drop(0);
            Check.counts("begin " + Arrays.toString(a) + ", a doing", x, 3, a[3] == a[0] ? 1 : 0);
            x.start();
            Check.counts("begin " + Arrays.toString(a) + ", start()", x, 5, a[1]);
            x.idle(a[1]);
            Check.counts("begin " + Arrays.toString(a) + ", a round", x, 2, Math.min(a[2], 17));
        }
    }

    private static void beginRefused() {
        Check.sentence("False, and nothing changes, when one is not such.");
        BeatHeap x = Check.heap(4, 7, 3, 1);
        x.make(3, 1, 1);
        x.put(3, 0, 9);
        x.link(3, 0, 3);
        x.start();
        x.idle(8);
        String before = all(x);
        int[][] bad = {{3, 1, 1, 0}, {65, 1, 1, 0}, {0, 1, 1, 0}, {-4, 1, 1, 0}, {MIN, 1, 1, 0}, {MAX, 1, 1, 0},
            {4, 0, 1, 0}, {4, 201, 1, 0}, {4, -1, 1, 0}, {4, MIN, 1, 0}, {4, MAX, 1, 0}, {4, 1, 0, 0}, {4, 1, 201, 0},
            {4, 1, -1, 0}, {4, 1, MIN, 0}, {4, 1, MAX, 0}, {4, 1, 1, -1}, {4, 1, 1, 5}, {64, 1, 1, 65}, {4, 1, 1, MIN},
            {4, 1, 1, MAX}, {3, 0, 0, -1}, {65, 201, 201, 66}, {3, 1, 1, 4}};
        for (int[] a : bad) {
            Check.due("begin " + Arrays.toString(a), x.begin(a[0], a[1], a[2], a[3]), false);
        }
        Check.due("nothing changed", all(x).equals(before), true);
        Check.counts("the quanta are the same", x, 2, 3, 5, 6);
        x.idle(6);
        Check.counts("the quanta are the same", x, 2, 6, 5, 7);
    }

    /** One wrong value among others that are new and good: none of them may stay. */
    private static void beginRefusedForOne() {
        Check.sentence("False, and nothing changes, when one is not such.");
        int[][] bad = {{3, 9, 5, 3}, {65, 9, 5, 3}, {8, 0, 5, 3}, {8, 201, 5, 3}, {8, 9, 0, 3}, {8, 9, 201, 3}, {8, 9, 5, -1},
            {8, 9, 5, 9}};
        for (int[] a : bad) {
            BeatHeap x = Check.heap(4, 7, 3, 1);
            String call = "begin " + Arrays.toString(a);
            Check.due(call, x.begin(a[0], a[1], a[2], a[3]), false);
            Check.counts(call, x, 6, 4);
            Check.due(call + ": word(256)", x.word(256), -1);
            x.make(0, 0, 3);
            x.make(0, 0, 7);
            Check.counts(call + ", two pages are FREE", x, 6, 2, 3, 0);
            x.make(0, 0, 15);
            Check.counts(call + ", as many as the trigger", x, 6, 1, 3, 1, 5, 7);
            x.idle(7);
            Check.counts(call + ", a round", x, 2, 3, 5, 7);
        }
    }

    private static void makeNoBlock() {
        Check.sentence("0 when no block is to be had (the root stays as it is, and it takes nothing, but a cycle begins, "
                + "if the collector is at rest)");
        BeatHeap x = full(200, 1);
        String before = all(x).replaceFirst("^(\\S+ ){13}", "");
        int ticks = x.count(0);
        Check.due("make(3, 0, 31)", x.make(3, 0, 31), 0);
        Check.due("the root stays", x.root(3, 0), 96);
        Check.due("make(12, 1, 0)", x.make(12, 1, 0), 0);
        Check.due("the root stays NULL", x.root(12, 0), -1);
        Check.due("nothing else changed", all(x).replaceFirst("^(\\S+ ){13}", "").equals(before), true);
        Check.counts("it takes nothing", x, 0, ticks, 2, 0, 3, 1, 5, 191, 7, 8, 8, 0, 10, 2);
    }

    /** The collector is never at rest when no page is FREE; the cycle that goes on must not begin again. */
    private static void makeNoBlockInEachPart() {
        Check.sentence("but a cycle begins, if the collector is at rest");
        BeatHeap x = full(10, 1);
        Check.counts("full", x, 3, 1, 5, 1);
        // The eighth one was taken in ROOTS, so seven come to hand: 16 + 7 + 1 steps, then the eight blocks.
        int[] steps = {0, 1, 15, 16, 17, 23, 24, 31};
        int done = 0;
        for (int step : steps) {
            while (done < step) {
                x.idle(done == 0 ? 1 : 10);
                done++;
            }
            int part = step < 16 ? 1 : step < 24 ? 2 : 3;
            Check.counts(step + " steps", x, 2, step, 3, part, 4, 0);
            int credit = x.count(5);
            Check.due(step + " steps: make()", x.make(0, 0, 31), 0);
            Check.counts(step + " steps, failed", x, 2, step, 3, part, 4, 0, 5, credit);
        }
        x.idle(10);
        Check.counts("32 steps: over, the next one begins", x, 2, 32, 3, 1, 4, 1, 5, 10);
    }

    private static void makeRefused() {
        Check.sentence("NONE, and nothing happens: no such root or sizes.");
        BeatHeap x = Check.heap(4, 1, 1, 4);
        String before = all(x);
        int[][] bad = {{-1, 1, 1}, {16, 1, 1}, {MIN, 1, 1}, {MAX, 1, 1}, {0, 0, 0}, {0, 32, 0}, {0, 0, 32}, {0, 16, 16},
            {0, -1, 5}, {0, 5, -1}, {0, MAX, MAX}, {0, MIN, MIN}, {-1, 0, 0}};
        for (int[] a : bad) {
            Check.due("make " + Arrays.toString(a), x.make(a[0], a[1], a[2]), -1);
        }
        Check.due("nothing happened", all(x).equals(before), true);
        x = full(200, 1);
        before = all(x);
        for (int[] a : bad) {
            Check.due("full: make " + Arrays.toString(a), x.make(a[0], a[1], a[2]), -1);
        }
        Check.due("full: nothing happened", all(x).equals(before), true);
    }

    private static void arrayBlockByBlock() {
        Check.sentence("each block is a doing by itself (what follows from its ticks comes behind it: the collector goes on, "
                + "a cycle begins)");
        BeatHeap x = Check.heap(8, 9, 2, 6);
        x.array(0, 64);
        // The spine's page leaves 7 FREE, the first leaf's 6: the cycle begins behind it, and only the second one pays.
        Check.counts("two leaves", x, 1, 20, 2, 2, 3, 1, 5, 9);
        x = Check.heap(8, 1, 200, 7);
        x.array(0, 64);
        // A whole cycle goes by behind each leaf, and the next one begins.
        Check.counts("a cycle behind each leaf", x, 3, 1, 4, 2, 6, 6, 7, 3, 9, 0);
        Check.due("whole()", x.whole(), true);
        Check.due("reachable()", x.reachable(), 3);
        Check.due("ticks of the program behind the collector's: share(9)", x.share(9), 0);
        x = Check.heap(8, 9, 17, 7);
        x.array(0, 96);
        // Behind leaf 0: 16 roots, the spine at hand; behind leaf 1: three looks, the last at nothing, SWEEP and 13
        // blocks; behind leaf 2: three blocks, and two of each of its pages.
        Check.counts("looked at before it is all there", x, 1, 29, 2, 17 + 17 + 7, 3, 1, 4, 1, 5, 9);
    }

    private static void arrayJustFits() {
        Check.sentence("1; 0 when a block is not to be had");
        BeatHeap x = Check.heap(4, 200, 1, 0);
        Check.due("array(0, 192)", x.array(0, 192), 1);
        Check.counts("a spine and six leaves fill four pages", x, 6, 0, 7, 7, 10, 0, 1, 57);
        Check.due("get of the last", x.put(0, 191, 3) && x.get(0, 191) == 3, true);
        x = Check.heap(4, 200, 1, 0);
        Check.due("array(0, 193)", x.array(0, 193), 0);
        Check.counts("one leaf too many", x, 6, 0, 7, 7, 10, 1, 1, 57);
        Check.due("the root is NULL", x.root(0, 0), -1);
    }

    private static void arrayNoSpine() {
        Check.sentence("as make() for the spine");
        BeatHeap x = full(200, 1);
        String before = all(x).replaceFirst("^(\\S+ ){13}", "");
        Check.due("array(3, 32)", x.array(3, 32), 0);
        Check.due("array(3, 512)", x.array(3, 512), 0);
        Check.due("array(9, 32)", x.array(9, 32), 0);
        Check.due("the roots stay", all(x).replaceFirst("^(\\S+ ){13}", "").equals(before), true);
        Check.counts("it takes nothing", x, 0, 72, 3, 1, 5, 191, 7, 8, 8, 0, 10, 3);
    }

    private static void arrayNoFirstLeaf() {
        Check.sentence("else the root is NULL then");
        BeatHeap x = Check.heap(4, 200, 1, 0);
        for (int root = 0; root < 6; root++) {
            x.make(root, 0, 31);
        }
        Check.due("array(3, 32)", x.array(3, 32), 0);
        Check.due("the root is NULL", x.root(3, 0), -1);
        // The spine's 2 ticks and nothing for the leaf; what the root was of and the spine: only the spine is lost in ROOTS.
        Check.counts("the spine was taken", x, 1, 56, 3, 1, 5, 200, 7, 7, 8, 1, 10, 1);
        Check.due("it is greyed", x.page(3, 2), 1);
        Check.due("reachable()", x.reachable(), 5);
    }

    private static void arrayNoLastLeaf() {
        Check.sentence("else the root is NULL then");
        BeatHeap x = Check.heap(9, 200, 1, 0);
        x.make(1, 0, 31);
        x.make(1, 0, 31);
        Check.due("array(0, 512)", x.array(0, 512), 0);
        Check.due("the root is NULL", x.root(0, 0), -1);
        Check.counts("a spine and 15 leaves were taken", x, 6, 0, 7, 18, 10, 1, 1, 18 + 16 * 9);
        x = Check.heap(9, 200, 1, 0);
        x.make(1, 0, 31);
        Check.due("array(0, 512), one block more", x.array(0, 512), 1);
        Check.counts("a spine and 16 leaves were taken", x, 6, 0, 7, 18, 10, 0);
    }

    private static void arrayNoLeafInSweep() {
        Check.sentence("else the root is NULL then");
        BeatHeap x = Check.heap(4, 50, 24, 0);
        for (int root = 0; root < 5; root++) {
            x.make(root, 0, 31);
        }
        x.make(5, 0, 3);
        // No FREE page; 16 roots, six at hand, SWEEP begins, and one block is swept.
        x.idle(50);
        Check.counts("SWEEP", x, 2, 24, 3, 3, 6, 0, 12, 32);
        Check.due("array(6, 64)", x.array(6, 64), 0);
        Check.due("the root is NULL", x.root(6, 0), -1);
        Check.counts("nothing is greyed in SWEEP", x, 2, 24, 3, 3, 5, 39, 7, 8, 8, 0, 10, 1);
    }

    private static void arrayRefused() {
        Check.sentence("NONE: no such root or size.");
        int[][] bad = {{-1, 32}, {16, 32}, {MIN, 32}, {MAX, 32}, {0, 31}, {0, 513}, {0, 0}, {0, -32}, {0, MIN}, {0, MAX},
            {0, MAX - 30}, {-1, 31}};
        for (BeatHeap x : new BeatHeap[] {Check.heap(4, 1, 1, 4), full(200, 1)}) {
            String before = all(x);
            for (int[] a : bad) {
                Check.due("array " + Arrays.toString(a), x.array(a[0], a[1]), -1);
            }
            Check.due("nothing happened", all(x).equals(before), true);
        }
    }

    private static void putFirstAndLast() {
        Check.sentence("A number of a root's object or array gets a value.");
        BeatHeap x = Check.heap(64, 200, 1, 0);
        x.make(0, 0, 31);
        x.make(1, 30, 1);
        x.array(2, 512);
        x.array(3, 33);
        int[][] numbers = {{0, 0}, {0, 30}, {1, 0}, {2, 0}, {2, 31}, {2, 32}, {2, 511}, {3, 0}, {3, 32}};
        for (int n = 0; n < numbers.length; n++) {
            Check.due("put " + Arrays.toString(numbers[n]), x.put(numbers[n][0], numbers[n][1], 100 + n), true);
        }
        for (int n = 0; n < numbers.length; n++) {
            Check.due("get " + Arrays.toString(numbers[n]), x.get(numbers[n][0], numbers[n][1]), 100 + n);
        }
        Check.due("root 0: word(1)", x.word(1), 100);
        Check.due("root 0: word(31)", x.word(31), 101);
        Check.due("root 1, behind 30 pointers: word(32 + 31)", x.word(63), 102);
    }

    private static void putAnyValue() {
        Check.sentence("A number of a root's object or array gets a value.");
        BeatHeap x = Check.heap(8, 200, 1, 0);
        x.make(0, 1, 1);
        x.array(1, 32);
        for (int v : new int[] {MIN, MAX, -1, 0, 1, 4096, -2}) {
            x.put(0, 0, v);
            x.put(1, 31, v);
            Check.due("get(0, 0)", x.get(0, 0), v);
            Check.due("get(1, 31)", x.get(1, 31), v);
            Check.due("word(2)", x.word(2), v);
        }
        // A number that looks like a pointer is none.
        x.put(0, 0, x.root(1, 0) + 1);
        x.drop(1);
        Check.due("reachable()", x.reachable(), 1);
    }

    private static void putRefused() {
        Check.sentence("False: no such root, it is NULL, no such number.");
        BeatHeap x = Check.heap(4, 1, 1, 0);
        x.make(0, 2, 3);
        x.make(1, 3, 0);
        x.array(2, 40);
        x.start();
        String before = all(x);
        int[][] bad = {{-1, 0}, {16, 0}, {MIN, 0}, {MAX, 0}, {3, 0}, {15, 0}, {0, -1}, {0, 3}, {0, MIN}, {0, MAX}, {1, 0},
            {1, -1}, {2, -1}, {2, 40}, {2, 63}, {2, 64}, {2, MIN}, {2, MAX}};
        for (int[] a : bad) {
            Check.due("put " + Arrays.toString(a), x.put(a[0], a[1], 77), false);
        }
        Check.due("nothing changed", all(x).equals(before), true);
        for (int address = 128; address < 192; address++) {
            Check.due("word(" + address + ") of the leaves is no 77", x.word(address) == 77, false);
        }
    }

    private static void getOfNothing() {
        Check.sentence("0 when there is none such (and it takes nothing)");
        BeatHeap x = Check.heap(4, 1, 1, 0);
        x.make(0, 2, 3);
        x.make(1, 3, 0);
        x.array(2, 40);
        x.link(0, 0, 1);
        x.start();
        String before = all(x);
        int[][] bad = {{-1, 0}, {16, 0}, {MIN, 0}, {MAX, 0}, {3, 0}, {15, 0}, {0, -1}, {0, -2}, {0, 3}, {0, MIN}, {0, MAX},
            {1, 0}, {1, -1}, {2, -1}, {2, 40}, {2, 63}, {2, 64}, {2, MIN}, {2, MAX}};
        for (int[] a : bad) {
            Check.due("get " + Arrays.toString(a), x.get(a[0], a[1]), 0);
        }
        Check.due("it took nothing", all(x).equals(before), true);
    }

    private static void linkNone() {
        Check.sentence("A pointer of a root's object becomes what another root is (NONE: NULL).");
        BeatHeap x = Check.heap(8, 200, 1, 0);
        x.make(0, 1, 0);
        x.array(1, 32);
        Check.due("link(0, 0, 1)", x.link(0, 0, 1), true);
        Check.due("word(1)", x.word(1), x.root(1, 0) + 1);
        Check.due("link(0, 0, NONE)", x.link(0, 0, BeatHeap.NONE), true);
        Check.due("NULL: word(1)", x.word(1), 0);
        Check.due("link(0, 0, NONE) once more", x.link(0, 0, BeatHeap.NONE), true);
        x.link(0, 0, 1);
        Check.due("link(0, 0, a root that is NULL)", x.link(0, 0, 15), true);
        Check.due("NULL: word(1)", x.word(1), 0);
        Check.due("link(0, 0, 0)", x.link(0, 0, 0), true);
        Check.due("the object at address 0: word(1)", x.word(1), 1);
    }

    private static void linkFirstAndLast() {
        Check.sentence("A pointer of a root's object becomes what another root is (NONE: NULL).");
        BeatHeap x = Check.heap(8, 200, 1, 0);
        x.make(0, 31, 0);
        x.make(15, 1, 2);
        Check.due("link(0, 0, 15)", x.link(0, 0, 15), true);
        Check.due("link(0, 30, 0)", x.link(0, 30, 0), true);
        Check.due("link(15, 0, 15)", x.link(15, 0, 15), true);
        Check.due("word(1)", x.word(1), 65);
        Check.due("word(31)", x.word(31), 1);
        Check.due("word(65)", x.word(65), 65);
        Check.due("word(66)", x.word(66), 0);
    }

    private static void linkRefused() {
        Check.sentence("False: no such root or pointer, it is NULL or an array.");
        BeatHeap x = Check.heap(4, 1, 1, 0);
        x.make(0, 2, 3);
        x.make(1, 0, 3);
        x.array(2, 40);
        x.link(0, 0, 0);
        x.start();
        String before = all(x);
        int[][] bad = {{-1, 0, 0}, {16, 0, 0}, {MIN, 0, 0}, {MAX, 0, 0}, {3, 0, 0}, {15, 0, -1}, {0, -1, 0}, {0, 2, 0},
            {0, MIN, 0}, {0, MAX, 0}, {1, 0, 0}, {1, 0, -1}, {2, 0, 0}, {2, 1, 1}, {2, 0, -1}, {2, 2, 0}, {0, 0, -2},
            {0, 0, 16}, {0, 0, MIN}, {0, 0, MAX}};
        for (int[] a : bad) {
            Check.due("link " + Arrays.toString(a), x.link(a[0], a[1], a[2]), false);
        }
        Check.due("nothing changed", all(x).equals(before), true);
    }

    private static void followFirstAndLast() {
        Check.sentence("A root becomes what a pointer of a root's object is.");
        BeatHeap x = Check.heap(8, 200, 1, 0);
        x.make(0, 31, 0);
        x.array(1, 32);
        x.link(0, 0, 0);
        x.link(0, 30, 1);
        Check.due("follow(0, 30, 15)", x.follow(0, 30, 15), true);
        Check.due("an array: root(15, 4)", x.root(15, 4), 1);
        Check.due("follow(0, 0, 15)", x.follow(0, 0, 15), true);
        Check.due("the object at address 0: root(15, 0)", x.root(15, 0), 0);
        Check.due("follow(0, 1, 15)", x.follow(0, 1, 15), true);
        Check.due("NULL: root(15, 0)", x.root(15, 0), -1);
        Check.due("follow(0, 1, 0)", x.follow(0, 1, 0), true);
        Check.due("NULL, onto the root itself: root(0, 0)", x.root(0, 0), -1);
    }

    private static void followRefused() {
        Check.sentence("False: as link().");
        BeatHeap x = Check.heap(4, 1, 1, 0);
        x.make(0, 2, 3);
        x.make(1, 0, 3);
        x.array(2, 40);
        x.link(0, 0, 0);
        x.start();
        String before = all(x);
        int[][] bad = {{-1, 0, 5}, {16, 0, 5}, {MIN, 0, 5}, {MAX, 0, 5}, {3, 0, 5}, {15, 0, 5}, {0, -1, 5}, {0, 2, 5},
            {0, MIN, 5}, {0, MAX, 5}, {1, 0, 5}, {2, 0, 5}, {2, 1, 5}, {2, 2, 5}, {0, 0, -1}, {0, 0, 16}, {0, 0, MIN},
            {0, 0, MAX}};
        for (int[] a : bad) {
            Check.due("follow " + Arrays.toString(a), x.follow(a[0], a[1], a[2]), false);
        }
        Check.due("nothing changed", all(x).equals(before), true);
    }

    private static void moveEdges() {
        Check.sentence("A root becomes what another one is.");
        BeatHeap x = Check.heap(8, 200, 1, 0);
        x.make(0, 0, 1);
        x.array(15, 32);
        Check.due("move(0, 1)", x.move(0, 1), true);
        Check.due("root(1, 0)", x.root(1, 0), 0);
        Check.due("move(15, 0)", x.move(15, 0), true);
        Check.due("root(0, 4)", x.root(0, 4), 1);
        Check.due("root(15, 4)", x.root(15, 4), 1);
        Check.due("move(7, 15)", x.move(7, 15), true);
        Check.due("NULL: root(15, 0)", x.root(15, 0), -1);
        Check.due("move(7, 7)", x.move(7, 7), true);
        Check.due("move(1, 1)", x.move(1, 1), true);
        Check.due("root(1, 0)", x.root(1, 0), 0);
    }

    private static void moveRefused() {
        Check.sentence("False: no such roots.");
        BeatHeap x = Check.heap(4, 1, 1, 0);
        x.make(0, 1, 1);
        x.start();
        String before = all(x);
        int[][] bad = {{-1, 0}, {0, -1}, {16, 0}, {0, 16}, {MIN, 0}, {0, MIN}, {MAX, 0}, {0, MAX}, {-1, -1}, {16, 16}};
        for (int[] a : bad) {
            Check.due("move " + Arrays.toString(a), x.move(a[0], a[1]), false);
        }
        Check.due("nothing changed", all(x).equals(before), true);
    }

    private static void dropEdges() {
        Check.sentence("A root becomes NULL. False: no such root.");
        BeatHeap x = Check.heap(4, 1, 1, 0);
        x.make(0, 1, 1);
        x.make(15, 1, 1);
        Check.due("drop(0)", x.drop(0), true);
        Check.due("root(0, 0)", x.root(0, 0), -1);
        Check.due("root(15, 0)", x.root(15, 0), 4);
        Check.due("drop(15)", x.drop(15), true);
        Check.due("root(15, 0)", x.root(15, 0), -1);
        Check.due("drop(15) of NULL", x.drop(15), true);
        x.start();
        String before = all(x);
        for (int root : new int[] {-1, 16, MIN, MAX}) {
            Check.due("drop(" + root + ")", x.drop(root), false);
        }
        Check.due("nothing changed", all(x).equals(before), true);
    }

    private static void idleLeastAndMost() {
        Check.sentence("The program idles for so many ticks (1 .. 1000), one doing each.");
        BeatHeap x = Check.heap(4, 200, 1, 0);
        Check.due("idle(1)", x.idle(1), true);
        Check.counts("idle(1)", x, 0, 1);
        Check.due("idle(1000)", x.idle(1000), true);
        Check.counts("idle(1000)", x, 0, 1001);
        x = Check.heap(4, 1, 200, 4);
        x.idle(1000);
        Check.counts("a cycle of 17 steps behind each but the first", x, 0, 1000 + 999 * 17, 3, 1, 4, 999);
    }

    private static void idleRefused() {
        Check.sentence("False: not such.");
        BeatHeap x = Check.heap(4, 1, 1, 4);
        String before = all(x);
        for (int ticks : new int[] {0, 1001, -1, -1000, MIN, MAX}) {
            Check.due("idle(" + ticks + ")", x.idle(ticks), false);
        }
        Check.due("nothing changed", all(x).equals(before), true);
    }

    private static void startTakesNothing() {
        Check.sentence("A cycle begins (that takes nothing).");
        BeatHeap x = Check.heap(4, 1, 1, 0);
        Check.due("start()", x.start(), true);
        Check.counts("start()", x, 0, 0, 1, 0, 2, 0, 3, 1, 4, 0, 5, 1, 8, 0, 11, -1, 12, -1);
    }

    private static void startRefusedInEachPart() {
        Check.sentence("False: one goes on.");
        for (int steps = 0; steps <= 20; steps++) {
            BeatHeap x = Check.heap(4, 1, 1, 0);
            x.make(0, 0, 31);
            Check.due("rest: start()", x.start(), true);
            for (int n = 0; n < steps; n++) {
                x.idle(1);
            }
            Check.counts(steps + " steps", x, 3, steps < 16 ? 1 : steps < 18 ? 2 : steps < 20 ? 3 : 0);
            String before = all(x);
            Check.due(steps + " steps: start()", x.start(), steps == 20);
            Check.due(steps + " steps: nothing changed", all(x).equals(before), steps != 20);
        }
        BeatHeap x = Check.heap(4, 5, 1, 4);
        x.idle(1);
        Check.due("begun by the trigger: start()", x.start(), false);
        x.idle(3);
        Check.due("credit 2: start()", x.start(), false);
        Check.counts("the credit stays", x, 0, 4, 3, 1, 5, 2);
    }
}
