/** The boundary cases that "Terms" names of the heap, its blocks and the roots: a test for each sentence. */
public final class HeapEdgesTest {
    private static final int MIN = Integer.MIN_VALUE;
    private static final int MAX = Integer.MAX_VALUE;
    private static final int[] FIELDS = {3, 7, 15, 31};
    private static final int[] WORDS = {4, 8, 16, 32};
    private static final int[] BLOCKS = {16, 8, 4, 2};
    private static final int[] TICKS = {2, 3, 5, 9};

    public static void main(String[] args) {
        fewestPages();
        mostPages();
        fullPages();
        leastClassOfAnObject();
        sizesOfAnObject();
        sizesOfAnArray();
        lastLeafHasMore();
        newFieldsInUsedBlocks();
        newArrayInUsedBlocks();
        freeBlockOfTheLeastAddress();
        roomInItsClassBeforeAFreePage();
        leastFreePage();
        noFreePageFails();
        firstAndLastRoot();
        noSuchRoots();
        Check.end();
    }

    private static int classOf(int words) {
        int sizeClass = 0;
        while (WORDS[sizeClass] < words) {
            sizeClass++;
        }
        return sizeClass;
    }

    /** A whole cycle at once: the heap's quanta must be 1 and 200. */
    private static void cycle(BeatHeap x) {
        int over = x.count(4);
        x.start();
        x.idle(1);
        Check.counts("a cycle", x, 3, 0, 4, over + 1);
    }

    private static void fewestPages() {
        Check.sentence("THE HEAP has PAGES (4 .. 64) of 64 words; word w of page p has the address 64 p + w.");
        BeatHeap x = Check.heap(4, 200, 1, 0);
        for (int n = 0; n < 8; n++) {
            Check.due("make(" + n + ", 0, 31)", x.make(n, 0, 31), 1);
        }
        x.put(7, 30, 5);
        Check.due("4 pages: word(255)", x.word(255), 5);
        Check.due("4 pages: word(256)", x.word(256), -1);
        Check.due("4 pages: page(3, 1)", x.page(3, 1), 2);
        Check.due("4 pages: page(4, 1)", x.page(4, 1), -1);
        Check.due("4 pages, full: make(0, 0, 1)", x.make(0, 0, 1), 0);
    }

    private static void mostPages() {
        Check.sentence("THE HEAP has PAGES (4 .. 64) of 64 words; word w of page p has the address 64 p + w.");
        BeatHeap x = Check.heap(64, 200, 1, 0);
        for (int n = 0; n < 128; n++) {
            Check.due("64 pages: make(" + n % 16 + ", 0, 31)", x.make(n % 16, 0, 31), 1);
            Check.due("64 pages: root(" + n % 16 + ", 0)", x.root(n % 16, 0), 32 * n);
        }
        x.put(15, 30, 7);
        Check.due("64 pages: word(4095)", x.word(4095), 7);
        Check.due("64 pages: word(4096)", x.word(4096), -1);
        Check.due("64 pages: page(63, 1)", x.page(63, 1), 2);
        Check.due("64 pages: page(64, 1)", x.page(64, 1), -1);
        Check.counts("64 pages", x, 6, 0, 7, 128);
        Check.due("64 pages, full: make(0, 0, 1)", x.make(0, 0, 1), 0);
    }

    private static void fullPages() {
        Check.sentence("its words are BLOCKS of 4, 8, 16, 32 words (16, 8, 4, 2 of them)");
        for (int c = 0; c < 4; c++) {
            BeatHeap x = Check.heap(4, 200, 1, 0);
            for (int n = 0; n < BLOCKS[c]; n++) {
                x.make(0, 0, FIELDS[c]);
                Check.due("class " + c + ": block " + n, x.root(0, 0), n * WORDS[c]);
                Check.due("class " + c + ": blocks of page 0", x.page(0, 1), n + 1);
                Check.counts("class " + c, x, 6, 3);
            }
            x.make(0, 0, FIELDS[c]);
            Check.due("class " + c + ": behind a full page", x.root(0, 0), 64);
            Check.due("class " + c + ": page(0, 1)", x.page(0, 1), BLOCKS[c]);
            Check.due("class " + c + ": page(1, 0)", x.page(1, 0), c);
            Check.counts("class " + c, x, 6, 2);
        }
    }

    private static void leastClassOfAnObject() {
        Check.sentence("a block of the least class that has as many words and one more");
        for (int fields = 1; fields <= 31; fields++) {
            for (int pointers : new int[] {0, 1, fields / 2, fields - 1, fields}) {
                BeatHeap x = Check.heap(4, 200, 1, 0);
                String call = "make(0, " + pointers + ", " + (fields - pointers) + ")";
                Check.due(call, x.make(0, pointers, fields - pointers), 1);
                Check.due(call + ": page(0, 0)", x.page(0, 0), classOf(fields + 1));
                Check.counts(call, x, 1, TICKS[classOf(fields + 1)]);
            }
        }
    }

    private static void sizesOfAnObject() {
        Check.sentence("An OBJECT has pointers and numbers (0 .. 31 each, 1 .. 31 in all)");
        BeatHeap x = Check.heap(4, 200, 1, 0);
        int[][] bad = {{0, 0}, {32, 0}, {0, 32}, {31, 1}, {1, 31}, {16, 16}, {31, 31}, {-1, 2}, {2, -1}, {-1, 32}, {32, -1},
            {MAX, MAX}, {MIN, MIN}, {MAX, 2}, {2, MAX}, {MAX, 1 - MAX}, {MAX, MIN + 2}, {MIN + 2, MAX}};
        for (int[] a : bad) {
            Check.due("make(0, " + a[0] + ", " + a[1] + ")", x.make(0, a[0], a[1]), -1);
        }
        Check.counts("no such sizes", x, 0, 0, 6, 4, 7, 0);
        int[][] good = {{1, 0}, {0, 1}, {31, 0}, {0, 31}, {30, 1}, {1, 30}};
        for (int[] a : good) {
            Check.due("make(0, " + a[0] + ", " + a[1] + ")", x.make(0, a[0], a[1]), 1);
            Check.due("root(0, 1)", x.root(0, 1), a[0]);
            Check.due("root(0, 2)", x.root(0, 2), a[1]);
        }
    }

    private static void sizesOfAnArray() {
        Check.sentence("An ARRAY has 32 .. 512 numbers: a SPINE of one word and one for each LEAF");
        for (int size = 32; size <= 512; size++) {
            BeatHeap x = Check.heap(64, 200, 1, 0);
            int leaves = (size + 31) / 32;
            String call = "array(0, " + size + ")";
            Check.due(call, x.array(0, size), 1);
            Check.due(call + ": root(0, 1)", x.root(0, 1), leaves);
            Check.due(call + ": root(0, 2)", x.root(0, 2), size);
            Check.due(call + ": class of the spine", x.page(0, 0), classOf(leaves + 1));
            Check.counts(call, x, 7, leaves + 1, 1, TICKS[classOf(leaves + 1)] + 9 * leaves);
        }
        BeatHeap x = Check.heap(64, 200, 1, 0);
        for (int size : new int[] {31, 513, 0, -1, -32, 1, MIN, MAX, MAX - 30}) {
            Check.due("array(0, " + size + ")", x.array(0, size), -1);
        }
        Check.counts("no such sizes", x, 0, 0, 6, 64, 7, 0);
    }

    private static void lastLeafHasMore() {
        Check.sentence("which is a block of class 3, of 32 numbers (the last one may have more than needed)");
        for (int size : new int[] {32, 33, 63, 64, 65, 95, 96, 97, 480, 481, 511, 512}) {
            BeatHeap x = Check.heap(64, 200, 1, 0);
            String call = "array(0, " + size + ")";
            x.array(0, size);
            int behindTheLeaves = (size + 31) / 32 * 32;
            Check.due(call + ": put of the last", x.put(0, size - 1, 9), true);
            Check.due(call + ": get of the last", x.get(0, size - 1), 9);
            Check.due(call + ": page(1, 0)", x.page(1, 0), 3);
            int ticks = x.count(0);
            for (int i = size; i <= behindTheLeaves; i++) {
                Check.due(call + ": put of " + i, x.put(0, i, 9), false);
                Check.due(call + ": get of " + i, x.get(0, i), 0);
            }
            Check.counts(call, x, 0, ticks);
        }
    }

    private static void newFieldsInUsedBlocks() {
        Check.sentence("New pointers are NULL, numbers 0.");
        for (int c = 0; c < 4; c++) {
            BeatHeap x = Check.heap(4, 1, 200, 0);
            int pointers = FIELDS[c] / 2;
            x.make(0, pointers, FIELDS[c] - pointers);
            for (int i = 0; i < FIELDS[c]; i++) {
                Check.due("a field gets a value", i < pointers ? x.link(0, i, 0) : x.put(0, i - pointers, -7), true);
            }
            x.drop(0);
            cycle(x);
            x.make(0, FIELDS[c] - pointers, pointers);
            Check.due("class " + c + ": the same block", x.root(0, 0), 0);
            for (int i = 0; i < WORDS[c]; i++) {
                Check.due("class " + c + ": word(" + i + ")", x.word(i), 0);
            }
            Check.due("class " + c + ": a pointer is NULL", x.follow(0, 0, 1), true);
            Check.due("class " + c + ": root(1, 0)", x.root(1, 0), -1);
        }
    }

    private static void newArrayInUsedBlocks() {
        Check.sentence("New pointers are NULL, numbers 0.");
        BeatHeap x = Check.heap(8, 1, 200, 0);
        x.array(0, 64);
        for (int i = 0; i < 64; i++) {
            x.put(0, i, i + 1);
        }
        x.drop(0);
        cycle(x);
        Check.counts("all are free", x, 6, 8, 7, 0);
        x.array(0, 50);
        Check.due("the same blocks: word(1)", x.word(1), 65);
        Check.due("the same blocks: word(2)", x.word(2), 97);
        for (int i = 0; i < 50; i++) {
            Check.due("get(0, " + i + ")", x.get(0, i), 0);
        }
        for (int address = 64; address < 128; address++) {
            Check.due("word(" + address + ")", x.word(address), 0);
        }
    }

    private static void freeBlockOfTheLeastAddress() {
        Check.sentence("TO TAKE a block of a class: the free one of the least address in pages of that class");
        BeatHeap x = Check.heap(8, 1, 200, 0);
        for (int n = 0; n < 8; n++) {
            x.make(n, 0, 15);
        }
        x.drop(5);
        x.drop(2);
        x.drop(7);
        cycle(x);
        int[] want = {32, 80, 112, 128};
        for (int n = 0; n < want.length; n++) {
            x.make(8 + n, 0, 15);
            Check.due("free block " + n, x.root(8 + n, 0), want[n]);
        }
    }

    private static void roomInItsClassBeforeAFreePage() {
        Check.sentence("TO TAKE a block of a class: the free one of the least address in pages of that class");
        BeatHeap x = Check.heap(8, 1, 200, 0);
        x.make(0, 0, 31);
        x.make(1, 0, 3);
        x.drop(0);
        cycle(x);
        Check.due("page 0 is FREE", x.page(0, 0), -1);
        for (int n = 1; n < 16; n++) {
            x.make(2, 0, 3);
            Check.due("in page 1", x.root(2, 0), 64 + 4 * n);
        }
        x.make(2, 0, 3);
        Check.due("page 1 is full: page 0", x.root(2, 0), 0);
    }

    private static void leastFreePage() {
        Check.sentence("if there is none, the least FREE page gets the class, and it is its first one");
        BeatHeap x = Check.heap(8, 1, 200, 0);
        x.make(0, 0, 31);
        x.make(1, 0, 31);
        x.make(2, 0, 3);
        x.make(3, 0, 7);
        x.drop(2);
        cycle(x);
        Check.due("page 1 is FREE", x.page(1, 0), -1);
        int[] want = {64, 96, 192, 224};
        for (int n = 0; n < want.length; n++) {
            x.make(4 + n, 0, 31);
            Check.due("taken " + n, x.root(4 + n, 0), want[n]);
        }
        Check.due("page(1, 0)", x.page(1, 0), 3);
        Check.due("page(3, 0)", x.page(3, 0), 3);
    }

    private static void noFreePageFails() {
        Check.sentence("if there is none: it fails");
        BeatHeap x = Check.heap(4, 200, 1, 0);
        for (int c = 0; c < 4; c++) {
            Check.due("the first of class " + c, x.make(c, 0, FIELDS[c]), 1);
        }
        for (int c = 3; c >= 0; c--) {
            for (int n = 1; n < BLOCKS[c]; n++) {
                Check.due("class " + c + " has room", x.make(4, 0, FIELDS[c]), 1);
            }
            Check.due("class " + c + " is full, others are not", x.make(5, 0, FIELDS[c]), 0);
            Check.due("class " + c + ": root(5, 0)", x.root(5, 0), -1);
            Check.counts("class " + c, x, 10, 4 - c);
        }
        Check.counts("all full", x, 6, 0, 7, 30, 2, 0);
    }

    private static void firstAndLastRoot() {
        Check.sentence("ROOTS 0 .. 15 are NULL or of an object or spine.");
        BeatHeap x = Check.heap(16, 200, 1, 0);
        for (int root = 0; root < 16; root++) {
            Check.due("at first: root(" + root + ", 0)", x.root(root, 0), -1);
        }
        for (int root = 0; root < 16; root += 15) {
            int other = 15 - root;
            String at = " with root " + root;
            Check.due("make()" + at, x.make(root, 1, 1), 1);
            Check.due("put()" + at, x.put(root, 0, 40 + root), true);
            Check.due("get()" + at, x.get(root, 0), 40 + root);
            Check.due("link()" + at, x.link(root, 0, root), true);
            Check.due("follow()" + at, x.follow(root, 0, other), true);
            Check.due("root()" + at, x.root(other, 0), x.root(root, 0));
            Check.due("move()" + at, x.move(other, root), true);
            Check.due("drop()" + at, x.drop(root), true);
            Check.due("array()" + at, x.array(root, 32), 1);
            Check.due("an array" + at, x.root(root, 4), 1);
            Check.due("drop() of it" + at, x.drop(root), true);
            Check.due("NULL" + at, x.root(root, 4), -1);
        }
    }

    private static void noSuchRoots() {
        Check.sentence("ROOTS 0 .. 15 are NULL or of an object or spine.");
        BeatHeap x = Check.heap(16, 200, 1, 0);
        x.make(0, 1, 1);
        x.make(15, 1, 1);
        for (int root : new int[] {-1, 16, -16, 17, 64, MIN, MAX}) {
            String at = " with root " + root;
            Check.due("make()" + at, x.make(root, 1, 1), -1);
            Check.due("array()" + at, x.array(root, 32), -1);
            Check.due("put()" + at, x.put(root, 0, 1), false);
            Check.due("get()" + at, x.get(root, 0), 0);
            Check.due("link()" + at, x.link(root, 0, 0), false);
            Check.due("follow()" + at, x.follow(root, 0, 0), false);
            Check.due("follow() to it" + at, x.follow(0, 0, root), false);
            Check.due("move() from it" + at, x.move(root, 0), false);
            Check.due("move() to it" + at, x.move(0, root), false);
            Check.due("drop()" + at, x.drop(root), false);
            Check.due("root()" + at, x.root(root, 0), -1);
        }
        Check.counts("nothing happened", x, 0, 4, 7, 2);
    }
}
