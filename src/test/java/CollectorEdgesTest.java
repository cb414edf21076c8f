/** The boundary cases that "Terms" names of the collector's parts: a test for each sentence. */
public final class CollectorEdgesTest {
    private static final int WAYS = 9;

    public static void main(String[] args) {
        greyOnce();
        onTopOfThePile();
        firstAndLastRoot();
        rootsOfNull();
        rootsFromZeroInEachCycle();
        handWithoutPointers();
        handWithMostPointers();
        handWithMostLeaves();
        nullPointersTakeAStep();
        pointerToItselfAndToMarked();
        emptyPileBeginsSweep();
        nothingAtHandWhenMarkBegins();
        placeIsZeroInEachCycle();
        sweepPassesFreePages();
        sweepLooksAtFreeBlocks();
        markedIsSoNoMore();
        unmarkedIsFree();
        neighboursStay();
        emptyPageIsFree();
        pageWithOneLeftIsNot();
        pageTakenIntoIsNot();
        overWithTheLastBlock();
        overBeforeFreePages();
        overInAnEmptyHeap();
        takenInRoots();
        takenInMark();
        takenAtRest();
        takenBelowPlace();
        takenAtPlace();
        takenInAPageAtPlace();
        takenBehindPlace();
        leavesTakenInSweep();
        greyedInRoots();
        greyedInMark();
        notGreyedAtRest();
        notGreyedInSweep();
        Check.end();
    }

    /** With quanta 1 and 1, each tick of the program is a step of the collector's. */
    private static BeatHeap stepByStep(int pages) {
        return Check.heap(pages, 1, 1, 0);
    }

    private static void greyOnce() {
        Check.sentence("TO GREY an object or spine that is not marked");
        BeatHeap x = stepByStep(8);
        x.make(0, 0, 1);
        for (int root = 1; root < 16; root++) {
            x.move(0, root);
        }
        x.start();
        x.idle(1);
        Check.counts("by root 0", x, 3, 1, 8, 1);
        x.idle(15);
        Check.counts("by 15 roots more", x, 3, 2, 8, 1);
        x.drop(3);
        Check.counts("and by a lost one: it is at hand", x, 3, 2, 8, 0, 11, 0);
        x.drop(4);
        Check.counts("nothing more is on the pile", x, 3, 3, 8, 0);
    }

    private static void onTopOfThePile() {
        Check.sentence("it is marked, and comes on top of the PILE");
        BeatHeap x = stepByStep(8);
        for (int root = 0; root < 16; root++) {
            x.make(root, 0, 1);
        }
        x.start();
        for (int root = 0; root < 16; root++) {
            x.idle(1);
            Check.counts("by root " + root, x, 8, root + 1);
            Check.due("by root " + root + ": root(" + root + ", 3)", x.root(root, 3), 1);
        }
        for (int root = 15; root >= 0; root--) {
            x.idle(1);
            Check.counts("the top is of root " + root, x, 8, root, 11, 4 * root);
        }
    }

    private static void firstAndLastRoot() {
        Check.sentence("a step greys the next root's (from 0 on; NULL: nothing); behind root 15 comes MARK");
        BeatHeap x = stepByStep(8);
        x.make(0, 0, 1);
        x.make(15, 0, 1);
        x.start();
        Check.due("no step: root(0, 3)", x.root(0, 3), 0);
        x.idle(1);
        Check.due("1 step: root(0, 3)", x.root(0, 3), 1);
        Check.counts("1 step", x, 3, 1, 8, 1);
        x.idle(14);
        Check.due("15 steps: root(15, 3)", x.root(15, 3), 0);
        Check.counts("15 steps", x, 3, 1, 8, 1);
        x.idle(1);
        Check.due("16 steps: root(15, 3)", x.root(15, 3), 1);
        Check.counts("16 steps", x, 3, 2, 8, 2, 2, 16);
    }

    private static void rootsOfNull() {
        Check.sentence("a step greys the next root's (from 0 on; NULL: nothing); behind root 15 comes MARK");
        BeatHeap x = stepByStep(8);
        x.start();
        for (int n = 1; n <= 15; n++) {
            x.idle(1);
            Check.counts(n + " steps", x, 2, n, 3, 1, 8, 0);
        }
        x.idle(1);
        Check.counts("16 steps", x, 2, 16, 3, 2, 8, 0);
    }

    private static void rootsFromZeroInEachCycle() {
        Check.sentence("a step greys the next root's (from 0 on; NULL: nothing); behind root 15 comes MARK");
        BeatHeap x = stepByStep(8);
        x.make(0, 0, 31);
        for (int cycle = 1; cycle <= 3; cycle++) {
            x.start();
            x.idle(1);
            Check.due("cycle " + cycle + ": root(0, 3)", x.root(0, 3), 1);
            x.idle(14);
            Check.counts("cycle " + cycle, x, 3, 1);
            x.idle(1);
            Check.counts("cycle " + cycle, x, 3, 2);
            x.idle(4);
            Check.counts("cycle " + cycle, x, 3, 0, 4, cycle, 2, 20 * cycle);
        }
    }

    private static void handWithoutPointers() {
        Check.sentence("Else the top of the pile is at hand (it is on the pile no more)");
        BeatHeap x = stepByStep(8);
        x.make(0, 0, 31);
        x.make(1, 0, 31);
        x.start();
        x.idle(16);
        Check.counts("MARK", x, 3, 2, 8, 2, 11, -1);
        x.idle(1);
        Check.counts("the second has none", x, 3, 2, 8, 1, 11, 32);
        x.idle(1);
        Check.counts("nor has the first", x, 3, 2, 8, 0, 11, 0);
        x.idle(1);
        Check.counts("SWEEP", x, 3, 3, 11, -1);
    }

    private static void handWithMostPointers() {
        Check.sentence("if something is AT HAND that has pointers left (of a spine: leaves): a step looks at the next one");
        BeatHeap x = stepByStep(8);
        x.make(0, 31, 0);
        x.make(1, 0, 1);
        x.make(2, 0, 1);
        x.link(0, 0, 1);
        x.link(0, 30, 2);
        x.drop(1);
        x.drop(2);
        x.start();
        x.idle(17);
        Check.counts("at hand", x, 3, 2, 8, 0, 11, 0);
        x.idle(1);
        Check.counts("the first pointer", x, 8, 1, 11, 0);
        x.idle(29);
        Check.counts("30 pointers", x, 3, 2, 8, 1, 11, 0);
        Check.due("30 pointers: page(1, 2)", x.page(1, 2), 1);
        x.idle(1);
        Check.counts("31 pointers", x, 3, 2, 8, 2, 11, 0);
        Check.due("31 pointers: page(1, 2)", x.page(1, 2), 2);
        x.idle(1);
        Check.counts("none is left: the top of the pile", x, 3, 2, 8, 1, 11, 68);
    }

    private static void handWithMostLeaves() {
        Check.sentence("an object or spine is greyed, a leaf is marked");
        BeatHeap x = stepByStep(64);
        x.array(0, 512);
        x.start();
        x.idle(17);
        Check.counts("the spine is at hand", x, 3, 2, 8, 0, 11, 0);
        for (int n = 1; n <= 16; n++) {
            x.idle(1);
            int marked = 0;
            for (int page = 0; page < 9; page++) {
                marked += x.page(page, 2);
            }
            Check.due(n + " leaves are marked", marked, 1 + n);
            Check.counts(n + " leaves: none is on the pile", x, 3, 2, 8, 0, 11, 0);
        }
        x.idle(1);
        Check.counts("no leaf is left", x, 3, 3, 11, -1);
    }

    private static void nullPointersTakeAStep() {
        Check.sentence("a step looks at the next one: an object or spine is greyed");
        BeatHeap x = stepByStep(8);
        x.make(0, 3, 0);
        x.start();
        x.idle(17);
        for (int n = 0; n < 3; n++) {
            x.idle(1);
            Check.counts("a NULL pointer", x, 2, 18 + n, 3, 2, 8, 0, 11, 0);
        }
        x.idle(1);
        Check.counts("none is left", x, 2, 21, 3, 3);
    }

    private static void pointerToItselfAndToMarked() {
        Check.sentence("a step looks at the next one: an object or spine is greyed");
        BeatHeap x = stepByStep(8);
        x.make(0, 2, 0);
        x.array(1, 32);
        x.link(0, 0, 0);
        x.link(0, 1, 1);
        x.drop(1);
        x.start();
        x.idle(17);
        x.idle(1);
        Check.counts("itself is marked", x, 8, 0, 11, 0);
        x.idle(1);
        Check.counts("a spine is greyed", x, 8, 1, 11, 0);
        Check.due("its leaf is not yet marked", x.page(1, 2), 0);
        x.idle(1);
        Check.counts("it is at hand", x, 8, 0, 11, 4);
        x.idle(1);
        Check.due("its leaf is marked", x.page(1, 2), 1);
    }

    private static void emptyPileBeginsSweep() {
        Check.sentence("if there is none, the step begins SWEEP, and nothing is at hand");
        BeatHeap x = stepByStep(8);
        x.make(0, 0, 31);
        x.start();
        x.idle(17);
        Check.counts("the last of the pile", x, 2, 17, 3, 2, 8, 0, 11, 0, 12, -1);
        x.idle(1);
        Check.counts("an empty pile", x, 2, 18, 3, 3, 8, 0, 11, -1, 12, 0);
        Check.due("the step swept nothing", x.root(0, 3), 1);
        x = stepByStep(8);
        x.make(0, 0, 31);
        x.drop(0);
        x.start();
        x.idle(16);
        Check.counts("nothing was greyed", x, 3, 2, 8, 0, 11, -1);
        x.idle(1);
        Check.counts("the first step of MARK", x, 2, 17, 3, 3, 11, -1, 12, 0, 7, 1);
    }

    private static void nothingAtHandWhenMarkBegins() {
        Check.sentence("(Nothing is when MARK begins.)");
        BeatHeap x = stepByStep(8);
        x.make(0, 5, 26);
        for (int cycle = 1; cycle <= 3; cycle++) {
            x.start();
            x.idle(15);
            Check.counts("ROOTS of cycle " + cycle, x, 3, 1, 11, -1);
            x.idle(1);
            Check.counts("MARK of cycle " + cycle, x, 3, 2, 8, 1, 11, -1);
            x.idle(1);
            Check.counts("cycle " + cycle, x, 3, 2, 8, 0, 11, 0);
            x.idle(5);
            Check.counts("five pointers, cycle " + cycle, x, 3, 2, 11, 0);
            x.idle(3);
            Check.counts("over", x, 3, 0, 4, cycle, 11, -1);
        }
    }

    private static void placeIsZeroInEachCycle() {
        Check.sentence("SWEEP has a PLACE, 0 when it begins");
        BeatHeap x = stepByStep(4);
        x.make(0, 0, 31);
        x.make(1, 0, 31);
        x.make(2, 0, 31);
        x.make(3, 0, 31);
        for (int cycle = 1; cycle <= 3; cycle++) {
            x.start();
            x.idle(21);
            for (int block = 0; block < 4; block++) {
                Check.counts("cycle " + cycle, x, 3, 3, 12, 32 * block);
                x.idle(1);
            }
            Check.counts("cycle " + cycle, x, 3, 0, 4, cycle, 12, -1);
        }
    }

    private static void sweepPassesFreePages() {
        Check.sentence("a step looks at the first block from there on, by addresses (in pages that are not FREE)");
        BeatHeap x = stepByStep(8);
        int[] numbers = {31, 15, 20, 7, 15, 31};
        for (int root = 0; root < 6; root++) {
            x.make(root, 0, numbers[root]);
        }
        // Pages: 0 of class 3 (roots 0 and 2), 1 of class 2 (1 and 4), 2 of class 1 (3), 3 of class 3 (5).
        x.drop(0);
        x.drop(2);
        x.drop(3);
        x.start();
        x.idle(200);
        Check.counts("the first cycle", x, 3, 0, 4, 1, 6, 6, 9, 3);
        Check.due("page 0 is FREE", x.page(0, 0), -1);
        Check.due("page 2 is FREE", x.page(2, 0), -1);
        x.start();
        x.idle(20);
        int[] addresses = {64, 80, 96, 112, 192, 224};
        for (int address : addresses) {
            Check.counts("the next block", x, 3, 3, 12, address);
            x.idle(1);
        }
        Check.counts("the second cycle", x, 3, 0, 4, 2, 12, -1);
    }

    private static void sweepLooksAtFreeBlocks() {
        Check.sentence("a step looks at the first block from there on, by addresses (in pages that are not FREE)");
        BeatHeap x = stepByStep(8);
        x.make(0, 0, 3);
        x.start();
        x.idle(18);
        for (int block = 0; block < 16; block++) {
            Check.counts("block " + block, x, 2, 18 + block, 3, 3, 9, 0, 12, 4 * block);
            x.idle(1);
        }
        Check.counts("free ones are not freed", x, 2, 34, 3, 0, 7, 1, 9, 0);
    }

    private static void markedIsSoNoMore() {
        Check.sentence("one that is marked is so no more");
        BeatHeap x = stepByStep(8);
        x.make(0, 0, 3);
        x.array(1, 32);
        x.start();
        x.idle(20);
        Check.counts("SWEEP", x, 3, 3, 12, 0);
        Check.due("marked", x.page(0, 2) + x.page(1, 2), 3);
        x.idle(1);
        Check.due("root(0, 3)", x.root(0, 3), 0);
        Check.due("root(1, 3)", x.root(1, 3), 1);
        x.idle(1);
        Check.due("root(1, 3)", x.root(1, 3), 0);
        x.idle(14);
        Check.counts("the leaf is next", x, 3, 3, 12, 64);
        Check.due("page(1, 2)", x.page(1, 2), 1);
        x.idle(1);
        Check.due("page(1, 2)", x.page(1, 2), 0);
        Check.counts("all are there", x, 7, 3, 9, 0);
    }

    private static void unmarkedIsFree() {
        Check.sentence("one that holds something and was not marked is free");
        BeatHeap x = stepByStep(8);
        x.make(0, 1, 2);
        x.array(1, 33);
        x.put(1, 0, 5);
        x.link(0, 0, 1);
        x.put(0, 1, 6);
        x.drop(0);
        x.drop(1);
        x.start();
        x.idle(17);
        Check.counts("SWEEP", x, 3, 3, 7, 4, 9, 0);
        Check.due("the object is there", x.word(3), 6);
        x.idle(1);
        Check.counts("the object is free", x, 7, 3, 9, 1);
        Check.due("the object is free", x.word(3), 0);
        Check.due("its pointer, too", x.word(1), 0);
        x.idle(1);
        Check.counts("the spine is free", x, 7, 2, 9, 2);
        Check.due("the leaf is there", x.word(64), 5);
        x.idle(15);
        Check.counts("a leaf is free", x, 7, 1, 9, 3);
        Check.due("the leaf is free", x.word(64), 0);
        x.idle(1);
        Check.counts("all are free", x, 3, 0, 6, 8, 7, 0, 9, 4);
    }

    private static void neighboursStay() {
        Check.sentence("one that holds something and was not marked is free");
        BeatHeap x = Check.heap(8, 1, 200, 0);
        x.make(0, 0, 31);
        x.array(1, 64);
        x.make(0, 0, 31);
        // Page 0 has the lost object and leaf 0, page 2 leaf 1 and the other object; page 1 has the spine.
        Check.due("leaf 0", x.word(65), 33);
        Check.due("leaf 1", x.word(66), 129);
        Check.due("root(0, 0)", x.root(0, 0), 160);
        for (int i : new int[] {0, 31, 32, 63}) {
            x.put(1, i, 500 + i);
        }
        x.drop(0);
        x.start();
        x.idle(1);
        Check.counts("both objects are free", x, 3, 0, 7, 3, 9, 2);
        for (int i : new int[] {0, 31, 32, 63}) {
            Check.due("get(1, " + i + ")", x.get(1, i), 500 + i);
        }
        Check.due("the spine", x.word(66), 129);
    }

    private static void emptyPageIsFree() {
        Check.sentence("behind the last block of a page that has none that holds something, the page is FREE");
        int[] fields = {3, 7, 15, 31};
        int[] blocks = {16, 8, 4, 2};
        for (int c = 0; c < 4; c++) {
            BeatHeap x = stepByStep(8);
            x.make(0, 0, fields[c]);
            x.drop(0);
            x.start();
            x.idle(17 + blocks[c] - 1);
            Check.counts("class " + c + ", before the last block", x, 3, 3, 6, 7, 7, 0);
            Check.due("class " + c + ", before the last block: page(0, 0)", x.page(0, 0), c);
            x.idle(1);
            Check.counts("class " + c + ", behind it", x, 3, 0, 6, 8);
            Check.due("class " + c + ", behind it: page(0, 0)", x.page(0, 0), -1);
        }
    }

    private static void pageWithOneLeftIsNot() {
        Check.sentence("behind the last block of a page that has none that holds something, the page is FREE");
        for (int left = 0; left < 4; left++) {
            BeatHeap x = Check.heap(8, 1, 200, 0);
            for (int root = 0; root < 4; root++) {
                x.make(root, 0, 15);
            }
            for (int root = 0; root < 4; root++) {
                if (root != left) {
                    x.drop(root);
                }
            }
            x.start();
            x.idle(1);
            Check.counts("block " + left + " is left", x, 3, 0, 4, 1, 6, 7, 7, 1, 9, 3);
            Check.due("block " + left + " is left: page(0, 0)", x.page(0, 0), 2);
            Check.due("block " + left + " is left: page(0, 1)", x.page(0, 1), 1);
        }
    }

    private static void pageTakenIntoIsNot() {
        Check.sentence("behind the last block of a page that has none that holds something, the page is FREE");
        BeatHeap x = Check.heap(8, 9, 1, 0);
        x.make(0, 0, 15);
        x.drop(0);
        x.start();
        x.idle(9 * 18);
        Check.counts("the only one is free", x, 3, 3, 7, 0, 12, 16);
        x.make(1, 0, 15);
        Check.due("it is taken again", x.root(1, 0), 0);
        x.idle(9 * 3);
        Check.counts("over", x, 3, 0, 4, 1, 6, 7, 7, 1, 9, 1);
        Check.due("page(0, 0)", x.page(0, 0), 2);
    }

    private static void overWithTheLastBlock() {
        Check.sentence("When there is no block from PLACE on behind a step");
        BeatHeap x = Check.heap(4, 1, 1, 0);
        for (int root = 0; root < 6; root++) {
            x.make(root, 0, 31);
        }
        x.make(6, 0, 15);
        // No FREE page is left, so a cycle has begun; what it needs is 16 + 7 + 1 + 10 steps.
        Check.counts("begun", x, 3, 1, 6, 0);
        x.idle(24);
        Check.counts("SWEEP", x, 3, 3, 12, 0);
        x.idle(9);
        Check.counts("the last block of the heap is next", x, 3, 3, 4, 0, 12, 240);
        x.drop(6);
        Check.counts("over, and the next one begins", x, 2, 34, 3, 1, 4, 1, 5, 1, 12, -1);
        x.idle(16 + 6 + 1 + 9);
        Check.counts("the last block of the heap is next again", x, 3, 3, 4, 1, 6, 0, 12, 240);
        x.idle(1);
        Check.counts("the heap's last page is FREE, over", x, 3, 0, 4, 2, 6, 1, 7, 6, 12, -1);
    }

    private static void overBeforeFreePages() {
        Check.sentence("When there is no block from PLACE on behind a step");
        BeatHeap x = stepByStep(64);
        x.make(0, 0, 31);
        x.start();
        x.idle(19);
        Check.counts("the last block is next", x, 3, 3, 12, 32);
        x.idle(1);
        Check.counts("FREE pages have none", x, 2, 20, 3, 0, 4, 1, 5, 0, 12, -1);
    }

    private static void overInAnEmptyHeap() {
        Check.sentence("(also the one that began SWEEP), the cycle is over, with that step");
        for (int pages : new int[] {4, 64}) {
            BeatHeap x = stepByStep(pages);
            x.start();
            x.idle(16);
            Check.counts("16 steps", x, 2, 16, 3, 2, 4, 0);
            x.idle(1);
            Check.counts("17 steps", x, 2, 17, 3, 0, 4, 1, 5, 0);
            x.idle(1);
            Check.counts("rest", x, 2, 17, 3, 0, 4, 1);
        }
    }

    private static void takenInRoots() {
        Check.sentence("A block that is taken in ROOTS or MARK is marked");
        BeatHeap x = Check.heap(8, 200, 1, 0);
        x.start();
        x.make(0, 1, 2);
        Check.due("an object: root(0, 3)", x.root(0, 3), 1);
        x.array(1, 64);
        Check.due("a spine: root(1, 3)", x.root(1, 3), 1);
        Check.due("its leaves: page(1, 2)", x.page(1, 2), 2);
        Check.counts("none is on the pile", x, 3, 1, 8, 0, 2, 0);
    }

    private static void takenInMark() {
        Check.sentence("A block that is taken in ROOTS or MARK is marked");
        BeatHeap x = Check.heap(8, 200, 16, 0);
        x.start();
        x.idle(200);
        Check.counts("MARK", x, 2, 16, 3, 2, 5, 200);
        x.make(0, 1, 2);
        Check.due("an object: root(0, 3)", x.root(0, 3), 1);
        x.array(1, 64);
        Check.due("a spine: root(1, 3)", x.root(1, 3), 1);
        Check.due("its leaves: page(1, 2)", x.page(1, 2), 2);
        Check.counts("none is on the pile", x, 2, 16, 3, 2, 8, 0);
    }

    private static void takenAtRest() {
        Check.sentence("A block that is taken in ROOTS or MARK is marked");
        BeatHeap x = Check.heap(8, 1, 200, 0);
        x.make(0, 1, 2);
        x.array(1, 64);
        Check.due("at rest: marks", x.page(0, 2) + x.page(1, 2), 0);
        x.start();
        x.idle(1);
        x.make(2, 1, 2);
        Check.counts("at rest again", x, 3, 0, 4, 1);
        Check.due("at rest again: marks", x.page(0, 2) + x.page(1, 2), 0);
    }

    private static void takenBelowPlace() {
        Check.sentence("in SWEEP, if it is not below PLACE");
        BeatHeap x = Check.heap(8, 9, 1, 0);
        x.make(0, 0, 3);
        x.make(1, 0, 3);
        x.drop(1);
        x.start();
        x.idle(9 * (16 + 1 + 1 + 2));
        Check.counts("block 4 is free and below PLACE", x, 3, 3, 7, 1, 12, 8);
        x.make(2, 0, 3);
        Check.due("root(2, 0)", x.root(2, 0), 4);
        Check.due("root(2, 3)", x.root(2, 3), 0);
        x.idle(9 * 14);
        Check.counts("over", x, 3, 0, 4, 1, 7, 2);
        Check.due("it is there", x.root(2, 0), 4);
        x.start();
        x.idle(9 * 40);
        Check.counts("and behind the next cycle", x, 3, 0, 4, 2, 7, 2, 9, 1);
    }

    private static void takenAtPlace() {
        Check.sentence("in SWEEP, if it is not below PLACE");
        BeatHeap x = Check.heap(8, 9, 1, 0);
        x.make(0, 0, 3);
        x.make(1, 0, 3);
        x.start();
        x.idle(9 * (16 + 2 + 1 + 2));
        Check.counts("PLACE is 8", x, 3, 3, 12, 8);
        x.make(2, 0, 3);
        Check.due("root(2, 0)", x.root(2, 0), 8);
        Check.due("root(2, 3)", x.root(2, 3), 1);
        x.idle(7);
        Check.counts("it is swept", x, 3, 3, 7, 3, 12, 12);
        Check.due("it is so no more: root(2, 3)", x.root(2, 3), 0);
        x.idle(9 * 20);
        Check.counts("over", x, 3, 0, 4, 1, 7, 3, 9, 0);
    }

    /** PLACE stands where a FREE page begins, and that page is taken. */
    private static void takenInAPageAtPlace() {
        Check.sentence("in SWEEP, if it is not below PLACE");
        BeatHeap x = Check.heap(8, 9, 1, 0);
        x.make(0, 0, 31);
        x.make(1, 0, 15);
        x.make(2, 0, 7);
        x.drop(1);
        x.start();
        x.idle(9 * (16 + 2 + 1 + 2 + 4 + 8));
        Check.counts("page 1 is FREE", x, 3, 0, 4, 1, 6, 6);
        x.start();
        x.idle(9 * (16 + 2 + 1 + 2));
        Check.counts("PLACE is behind page 0", x, 3, 3, 12, 128);
        x.make(3, 0, 3);
        Check.due("root(3, 0)", x.root(3, 0), 64);
        Check.due("root(3, 3)", x.root(3, 3), 1);
        Check.counts("it is swept next", x, 12, 64);
        x.idle(7);
        Check.due("it is so no more: root(3, 3)", x.root(3, 3), 0);
        Check.counts("it is there", x, 3, 3, 7, 3, 12, 68);
    }

    private static void takenBehindPlace() {
        Check.sentence("in SWEEP, if it is not below PLACE");
        BeatHeap x = Check.heap(8, 9, 1, 0);
        x.make(0, 0, 3);
        x.make(1, 0, 3);
        x.start();
        x.idle(9 * (16 + 2 + 1));
        Check.counts("PLACE is 0", x, 3, 3, 12, 0);
        x.make(2, 0, 15);
        Check.due("a page behind: root(2, 0)", x.root(2, 0), 64);
        Check.due("a page behind: root(2, 3)", x.root(2, 3), 1);
        x.idle(4 + 9 * 15);
        Check.counts("the cycle goes on to it", x, 3, 3, 12, 64);
        x.idle(9 * 4);
        Check.counts("over", x, 3, 0, 4, 1, 7, 3, 9, 0);
        Check.due("no mark stays", x.root(2, 3), 0);
    }

    private static void leavesTakenInSweep() {
        Check.sentence("in SWEEP, if it is not below PLACE");
        BeatHeap x = Check.heap(8, 20, 1, 0);
        x.make(0, 0, 31);
        x.make(1, 0, 15);
        x.drop(0);
        x.start();
        x.idle(20 * (16 + 1 + 1 + 2));
        Check.counts("page 0 is FREE again", x, 3, 3, 6, 7, 12, 64);
        x.array(2, 32);
        Check.counts("no step yet", x, 2, 20, 12, 64);
        Check.due("the spine is below PLACE: root(2, 0)", x.root(2, 0), 0);
        Check.due("the spine is not marked", x.root(2, 3), 0);
        Check.due("the leaf is behind PLACE", x.word(1), 129);
        Check.due("the leaf is marked", x.page(2, 2), 1);
        x.idle(9 + 20 * 5);
        Check.counts("over", x, 3, 0, 4, 1, 7, 3, 9, 1);
        Check.due("whole()", x.whole(), true);
        Check.due("reachable()", x.reachable(), 3);
        Check.due("no mark stays", x.page(0, 2) + x.page(1, 2) + x.page(2, 2), 0);
    }

    /**
     * Root 5's object gets lost (ways 0 to 4) or is set again (5, 6), or a pointer to it is (7, 8).
     * Root 0's object has it as pointer 0 and NULL as pointer 1.
     */
    private static void change(BeatHeap x, int way) {
        switch (way) {
            case 0:
                x.make(5, 0, 1);
                break;
            case 1:
                x.array(5, 32);
                break;
            case 2:
                x.follow(0, 1, 5);
                break;
            case 3:
                x.move(9, 5);
                break;
            case 4:
                x.drop(5);
                break;
            case 5:
                x.move(5, 5);
                break;
            case 6:
                x.follow(0, 0, 5);
                break;
            case 7:
                x.link(0, 0, -1);
                break;
            default:
                x.link(0, 0, 5);
                break;
        }
    }

    /** The object at 0 and root 0, and the one at 64, of its pointer 0. */
    private static BeatHeap two(int program, int collector) {
        BeatHeap x = Check.heap(16, program, collector, 0);
        x.make(0, 2, 0);
        x.make(5, 0, 20);
        x.link(0, 0, 5);
        return x;
    }

    private static void greyedInRoots() {
        Check.sentence("In ROOTS and MARK, before a root or a pointer gets another value (also the same one), "
                + "what it was of is greyed.");
        for (int way = 0; way < WAYS; way++) {
            BeatHeap x = two(200, 1);
            x.start();
            change(x, way);
            Check.counts("ROOTS, way " + way, x, 2, 0, 3, 1, 8, 1);
            Check.due("ROOTS, way " + way + ": root(0, 3)", x.root(0, 3), 0);
            Check.due("ROOTS, way " + way + ": page(1, 2)", x.page(1, 2), way == 1 ? 2 : 1);
            x.drop(0);
            Check.counts("ROOTS, way " + way + ", the other", x, 8, 2);
            x.drop(0);
            Check.counts("ROOTS, way " + way + ", NULL", x, 8, 2);
        }
    }

    private static void greyedInMark() {
        Check.sentence("In ROOTS and MARK, before a root or a pointer gets another value (also the same one), "
                + "what it was of is greyed.");
        for (int way = 0; way < WAYS; way++) {
            BeatHeap x = two(200, 16);
            x.drop(5);
            x.start();
            x.idle(200);
            Check.counts("MARK", x, 2, 16, 3, 2, 8, 1, 11, -1);
            x.follow(0, 0, 5);
            Check.due("MARK: root(5, 3)", x.root(5, 3), 0);
            change(x, way);
            Check.counts("MARK, way " + way, x, 2, 16, 3, 2, 8, 2);
            Check.due("MARK, way " + way + ": page(1, 2)", x.page(1, 2), way == 1 ? 2 : 1);
        }
    }

    private static void notGreyedAtRest() {
        Check.sentence("In ROOTS and MARK, before a root or a pointer gets another value (also the same one), "
                + "what it was of is greyed.");
        for (int way = 0; way < WAYS; way++) {
            BeatHeap x = two(200, 1);
            change(x, way);
            Check.counts("rest, way " + way, x, 3, 0, 8, 0);
            Check.due("rest, way " + way, x.page(0, 2) + x.page(1, 2), 0);
        }
    }

    private static void notGreyedInSweep() {
        Check.sentence("In ROOTS and MARK, before a root or a pointer gets another value (also the same one), "
                + "what it was of is greyed.");
        for (int way = 0; way < WAYS; way++) {
            // 16 roots, two at hand with two pointers in all, SWEEP begins, 16 blocks and the one at 64.
            BeatHeap x = two(200, 16 + 4 + 1 + 16 + 1);
            x.start();
            x.idle(200);
            Check.counts("SWEEP", x, 2, 38, 3, 3, 12, 96);
            Check.due("SWEEP: root(5, 3)", x.root(5, 3), 0);
            change(x, way);
            Check.counts("SWEEP, way " + way, x, 2, 38, 3, 3, 8, 0);
            Check.due("SWEEP, way " + way + ": page(0, 2)", x.page(0, 2), 0);
            Check.due("SWEEP, way " + way + ": page(1, 2)", x.page(1, 2), way == 1 ? 1 : 0);
        }
    }
}
