/** The boundary cases that promises 13 to 19 name, and the 512 calls: a test for each sentence. */
public final class LookEdgesTest {
    private static final int MIN = Integer.MIN_VALUE;
    private static final int MAX = Integer.MAX_VALUE;

    public static void main(String[] args) {
        rootOfEach();
        rootRefused();
        wordOfEach();
        wordOfWhatIsFree();
        wordRefused();
        pageOfEach();
        lastPageFull();
        pageRefused();
        countsOfNothing();
        countsInAll();
        countRefused();
        handAndNextInEachPart();
        shareOfTooFew();
        shareLeastAndMost();
        shareOverTheRowsEnd();
        shareOfTheLatestAlone();
        shareRefused();
        reachableNothing();
        reachableOnce();
        reachableLongest();
        reachableIsNotHeld();
        wholeOfNothing();
        wholeInEachStep();
        manyCalls();
        looksTakeNothing();
        Check.end();
    }

    private static void rootOfEach() {
        Check.sentence("what = 0 its address, 1 pointers (of an array leaves), 2 numbers, 3 whether it is marked (1 or 0), "
                + "4 whether it is an array");
        BeatHeap x = Check.heap(64, 200, 1, 0);
        x.make(0, 31, 0);
        x.make(1, 0, 31);
        x.array(2, 32);
        x.array(15, 512);
        int[] roots = {0, 1, 2, 15};
        int[][] want = {{0, 31, 0, 0, 0}, {32, 0, 31, 0, 0}, {64, 1, 32, 0, 1}, {160, 16, 512, 0, 1}};
        for (int n = 0; n < 4; n++) {
            for (int what = 0; what < 5; what++) {
                Check.due("root(" + roots[n] + ", " + what + ")", x.root(roots[n], what), want[n][what]);
            }
        }
        x.start();
        x.move(2, 2);
        Check.due("marked: root(2, 3)", x.root(2, 3), 1);
        Check.due("not marked: root(1, 3)", x.root(1, 3), 0);
    }

    private static void rootRefused() {
        Check.sentence("NONE: no such root, it is NULL, another number.");
        BeatHeap x = Check.heap(8, 200, 1, 0);
        x.make(0, 1, 1);
        x.make(15, 1, 1);
        x.array(1, 32);
        for (int what : new int[] {-1, 5, MIN, MAX}) {
            for (int root : new int[] {0, 1, 2, 15, 16}) {
                Check.due("root(" + root + ", " + what + ")", x.root(root, what), -1);
            }
        }
        for (int what = 0; what < 5; what++) {
            for (int root : new int[] {-1, 16, MIN, MAX, 2, 14}) {
                Check.due("root(" + root + ", " + what + ")", x.root(root, what), -1);
            }
        }
        x.drop(15);
        Check.due("NULL again: root(15, 0)", x.root(15, 0), -1);
    }

    private static void wordOfEach() {
        Check.sentence("of objects and spines the first word is 0, a pointer the address and 1 (NULL: 0), a number itself");
        BeatHeap x = Check.heap(4, 200, 1, 0);
        x.make(0, 2, 1);
        x.array(1, 64);
        x.link(0, 0, 0);
        x.put(0, 0, -1);
        x.put(1, 0, 8);
        x.put(1, 63, 9);
        x.start();
        x.move(0, 0);
        // Marks and sizes do not show: the first word is 0, marked or not.
        int[] want = {0, 1, 0, -1, 0, 65, 97, 0};
        for (int address = 0; address < want.length; address++) {
            Check.due("word(" + address + ")", x.word(address), want[address]);
        }
        Check.due("a leaf's first word is a number: word(64)", x.word(64), 8);
        Check.due("a leaf's last word: word(127)", x.word(127), 9);
    }

    private static void wordOfWhatIsFree() {
        Check.sentence("of what is free, 0");
        BeatHeap x = Check.heap(4, 1, 200, 0);
        x.make(0, 2, 1);
        x.make(1, 1, 14);
        x.link(1, 0, 1);
        for (int i = 0; i < 14; i++) {
            x.put(1, i, i + 1);
        }
        x.put(0, 0, 7);
        x.drop(1);
        x.start();
        x.idle(1);
        Check.due("the other is there: word(3)", x.word(3), 7);
        for (int address = 4; address < 256; address++) {
            Check.due("free: word(" + address + ")", x.word(address), 0);
        }
        // Of a block's last words that its object does not need there is nothing either.
        x.make(1, 0, 4);
        x.put(1, 3, 5);
        Check.due("word(64 + 4)", x.word(68), 5);
        Check.due("word(64 + 5)", x.word(69), 0);
    }

    private static void wordRefused() {
        Check.sentence("NONE, too: none such.");
        for (int pages : new int[] {4, 5, 64}) {
            BeatHeap x = Check.heap(pages, 200, 1, 0);
            Check.due("word(0)", x.word(0), 0);
            Check.due("the last word of " + pages + " pages", x.word(64 * pages - 1), 0);
            for (int address : new int[] {-1, -64, 64 * pages, 64 * pages + 1, MIN, MAX}) {
                Check.due(pages + " pages: word(" + address + ")", x.word(address), -1);
            }
        }
    }

    private static void pageOfEach() {
        Check.sentence("what = 0 its class (NONE: FREE), 1 blocks that hold something, 2 of these marked");
        int[] fields = {3, 7, 15, 31};
        int[] blocks = {16, 8, 4, 2};
        for (int c = 0; c < 4; c++) {
            BeatHeap x = Check.heap(4, 200, 1, 0);
            Check.due("FREE: page(0, 0)", x.page(0, 0), -1);
            Check.due("FREE: page(0, 1)", x.page(0, 1), 0);
            Check.due("FREE: page(0, 2)", x.page(0, 2), 0);
            x.make(0, 0, fields[c]);
            x.start();
            for (int n = 1; n < blocks[c]; n++) {
                x.make(1, 0, fields[c]);
            }
            Check.due("full: page(0, 0)", x.page(0, 0), c);
            Check.due("full: page(0, 1)", x.page(0, 1), blocks[c]);
            Check.due("the first is not marked: page(0, 2)", x.page(0, 2), blocks[c] - 1);
            x.drop(0);
            Check.due("all are marked: page(0, 2)", x.page(0, 2), blocks[c]);
        }
    }

    private static void lastPageFull() {
        Check.sentence("what = 0 its class (NONE: FREE), 1 blocks that hold something, 2 of these marked");
        BeatHeap x = Check.heap(64, 200, 1, 0);
        for (int n = 0; n < 126; n++) {
            x.make(0, 0, 31);
        }
        x.start();
        for (int n = 1; n <= 16; n++) {
            x.make(0, 0, 3);
            Check.due("page(63, 1)", x.page(63, 1), n);
            Check.due("page(63, 2)", x.page(63, 2), n);
        }
        Check.due("page(63, 0)", x.page(63, 0), 0);
        Check.due("page(62, 0)", x.page(62, 0), 3);
        Check.due("page(62, 1)", x.page(62, 1), 2);
        // Of page 62 the one that root 0 lost in ROOTS is greyed.
        Check.due("page(62, 2)", x.page(62, 2), 1);
        Check.due("page(61, 2)", x.page(61, 2), 0);
    }

    private static void pageRefused() {
        Check.sentence("NONE, too: none such.");
        for (int pages : new int[] {4, 64}) {
            BeatHeap x = Check.heap(pages, 200, 1, 0);
            Check.due("the last page", x.page(pages - 1, 1), 0);
            for (int page : new int[] {-1, pages, pages + 1, MIN, MAX}) {
                for (int what = -1; what < 4; what++) {
                    Check.due(pages + " pages: page(" + page + ", " + what + ")", x.page(page, what), -1);
                }
            }
            x.make(0, 0, 1);
            for (int what : new int[] {-1, 3, MIN, MAX}) {
                Check.due("page(0, " + what + ")", x.page(0, what), -1);
            }
        }
    }

    private static void countsOfNothing() {
        Check.sentence("5 credit (0 at rest)");
        BeatHeap x = Check.heap(4, 30, 200, 0);
        Check.counts("at first", x, 0, 0, 1, 0, 2, 0, 3, 0, 4, 0, 5, 0, 6, 4, 7, 0, 8, 0, 9, 0, 10, 0, 11, -1, 12, -1);
        x.start();
        Check.counts("a cycle", x, 3, 1, 5, 30);
        x.idle(30);
        Check.counts("at rest again", x, 0, 47, 1, 30, 2, 17, 3, 0, 4, 1, 5, 0, 8, 0, 11, -1, 12, -1);
    }

    private static void countsInAll() {
        Check.sentence("9 blocks freed in all, 10 times that a block was not to be had");
        BeatHeap x = Check.heap(4, 1, 200, 0);
        for (int cycle = 1; cycle <= 3; cycle++) {
            x.make(0, 0, 3);
            x.make(1, 0, 7);
            x.drop(0);
            x.drop(1);
            x.start();
            x.idle(1);
            Check.counts("cycle " + cycle, x, 4, cycle, 7, 0, 9, 2 * cycle, 10, 0);
        }
        x.begin(4, 200, 1, 0);
        for (int n = 0; n < 8; n++) {
            x.make(n, 0, 31);
        }
        for (int times = 1; times <= 3; times++) {
            x.make(0, 0, 1);
            Check.counts("full", x, 9, 0, 10, 2 * times - 1);
            x.array(0, 512);
            Check.counts("full", x, 9, 0, 10, 2 * times);
            x.make(0, 0, 0);
            x.array(0, 31);
            Check.counts("a refused call is no time", x, 10, 2 * times);
        }
    }

    private static void countRefused() {
        Check.sentence("NONE: another number.");
        BeatHeap x = Check.heap(4, 1, 1, 4);
        x.idle(10);
        for (int what : new int[] {-1, 13, 14, 100, MIN, MAX}) {
            Check.due("count(" + what + ")", x.count(what), -1);
        }
        Check.counts("12 is one, 13 is none", x, 3, 1, 12, -1, 0, 19);
    }

    private static void handAndNextInEachPart() {
        Check.sentence("11 what is at hand: its address (NONE), 12 the block that is swept next: its address "
                + "(NONE when there is none, or in another part)");
        BeatHeap x = Check.heap(4, 1, 1, 0);
        x.make(0, 0, 31);
        x.make(1, 0, 31);
        int[] hand = {-1, -1, -1, -1, -1, -1, -1, -1, -1, -1, -1, -1, -1, -1, -1, -1, -1, 32, 0, -1, -1, -1};
        x.start();
        for (int steps = 0; steps < hand.length; steps++) {
            int next = steps == 19 ? 0 : steps == 20 ? 32 : -1;
            Check.counts(steps + " steps", x, 2, steps, 11, hand[steps], 12, next);
            x.idle(1);
        }
        Check.counts("rest", x, 3, 0, 11, -1, 12, -1);
    }

    private static void shareOfTooFew() {
        Check.sentence("NONE: not such, or so many were not yet.");
        BeatHeap x = Check.heap(4, 200, 1, 0);
        Check.due("no tick: share(1)", x.share(1), -1);
        for (int ticks = 1; ticks <= 20; ticks++) {
            x.idle(1);
            Check.due(ticks + " ticks: share of as many", x.share(ticks), ticks);
            Check.due(ticks + " ticks: share of one more", x.share(ticks + 1), -1);
        }
        x.idle(1000);
        x.idle(979);
        Check.due("1999 ticks: share(1999)", x.share(1999), 1999);
        Check.due("1999 ticks: share(2000)", x.share(2000), -1);
        x.idle(1);
        Check.due("2000 ticks: share(2000)", x.share(2000), 2000);
        x.idle(1);
        Check.due("2001 ticks: share(2000)", x.share(2000), 2000);
        Check.due("2001 ticks: share(2001)", x.share(2001), -1);
    }

    private static void shareLeastAndMost() {
        Check.sentence("Of all windows of so many ticks (1 .. 2000) within the latest 2000 ticks: the fewest that were the "
                + "program's.");
        BeatHeap x = Check.heap(4, 3, 2, 4);
        x.idle(1000);
        x.idle(1000);
        // Rows of ppp and cc, but a cycle of 17 steps ends with one c in its last round.
        Check.due("share(1)", x.share(1), 0);
        Check.due("share(2)", x.share(2), 0);
        Check.due("share(3)", x.share(3), 1);
        Check.due("share(5)", x.share(5), 3);
        Check.due("share(7)", x.share(7), 3);
        Check.due("share(8)", x.share(8), 4);
        // Nine rounds have 27 and 17 ticks: 45 such rows and 20 ticks more stand in 2000.
        Check.due("share(44)", x.share(44), 27);
        Check.due("share(2000)", x.share(2000) >= 45 * 27 + 11 && x.share(2000) <= 45 * 27 + 14, true);
    }

    /** The latest ticks stand in a row that is used again; windows lie over its end too. */
    private static void shareOverTheRowsEnd() {
        Check.sentence("Of all windows of so many ticks (1 .. 2000) within the latest 2000 ticks: the fewest that were the "
                + "program's.");
        for (int before : new int[] {1981, 1982, 1983, 1990, 1998, 1999, 2000}) {
            BeatHeap x = Check.heap(4, 1, 200, 0);
            x.idle(1000);
            x.idle(before - 1001);
            x.start();
            x.idle(1);
            Check.counts("17 steps behind " + before + " ticks", x, 0, before + 17, 2, 17);
            Check.due("behind " + before + ": share(1)", x.share(1), 0);
            Check.due("behind " + before + ": share(17)", x.share(17), 0);
            Check.due("behind " + before + ": share(18)", x.share(18), 1);
            int most = Math.min(2000, before + 17);
            Check.due("behind " + before + ": share of the most", x.share(most), most - 17);
            x.idle(30);
            Check.due("behind " + before + ", 30 more: share(17)", x.share(17), 0);
            Check.due("behind " + before + ", 30 more: share(18)", x.share(18), 1);
            Check.due("behind " + before + ", 30 more: share(2000)", x.share(2000), 1983);
        }
    }

    private static void shareOfTheLatestAlone() {
        Check.sentence("within the latest 2000 ticks");
        BeatHeap x = Check.heap(4, 1, 200, 0);
        x.start();
        x.idle(1);
        x.idle(1000);
        x.idle(982);
        Check.counts("2000 ticks, of which 2 to 18 are the collector's", x, 0, 2000, 2, 17);
        Check.due("share(17)", x.share(17), 0);
        for (int left = 17; left >= 0; left--) {
            x.idle(1);
            Check.due(left + " are left: share(17)", x.share(17), 17 - left);
            Check.due(left + " are left: share(2000)", x.share(2000), 2000 - left);
            Check.due(left + " are left: share(1)", x.share(1), left == 0 ? 1 : 0);
            if (left == 17) {
                Check.due("the first one is gone, no c yet", x.share(18), 1);
            }
        }
    }

    private static void shareRefused() {
        Check.sentence("NONE: not such, or so many were not yet.");
        BeatHeap x = Check.heap(4, 200, 1, 0);
        x.idle(1000);
        x.idle(1000);
        x.idle(1000);
        for (int window : new int[] {0, -1, 2001, 3000, MIN, MAX}) {
            Check.due("share(" + window + ")", x.share(window), -1);
        }
        Check.due("share(1)", x.share(1), 1);
        Check.due("share(2000)", x.share(2000), 2000);
    }

    private static void reachableNothing() {
        Check.sentence("How many objects, spines and leaves can be come to from the roots.");
        BeatHeap x = Check.heap(4, 200, 1, 0);
        Check.due("at first", x.reachable(), 0);
        x.make(15, 1, 0);
        Check.due("by the last root", x.reachable(), 1);
        x.drop(15);
        Check.due("lost", x.reachable(), 0);
    }

    private static void reachableOnce() {
        Check.sentence("How many objects, spines and leaves can be come to from the roots.");
        BeatHeap x = Check.heap(64, 200, 1, 0);
        x.make(0, 2, 0);
        x.make(1, 2, 0);
        x.array(2, 512);
        x.link(0, 0, 1);
        x.link(1, 0, 0);
        x.link(0, 1, 2);
        x.link(1, 1, 2);
        for (int root = 3; root < 16; root++) {
            x.move(root % 3, root);
        }
        Check.due("in a ring, by all roots", x.reachable(), 2 + 17);
        for (int root = 1; root < 16; root++) {
            x.drop(root);
        }
        Check.due("by one root", x.reachable(), 2 + 17);
        x.drop(0);
        Check.due("by none", x.reachable(), 0);
    }

    private static void reachableLongest() {
        Check.sentence("How many objects, spines and leaves can be come to from the roots.");
        BeatHeap x = Check.heap(64, 200, 1, 0);
        x.make(0, 1, 0);
        for (int n = 1; n < 165; n++) {
            x.make(1, 1, 0);
            x.link(1, 0, 0);
            x.move(1, 0);
        }
        x.drop(1);
        Check.due("a chain", x.reachable(), 165);
        Check.due("a chain: whole()", x.whole(), true);
    }

    private static void reachableIsNotHeld() {
        Check.sentence("How many objects, spines and leaves can be come to from the roots.");
        BeatHeap x = Check.heap(8, 1, 1, 0);
        x.make(0, 0, 1);
        x.make(0, 0, 1);
        Check.due("one is lost", x.reachable(), 1);
        Check.counts("it is held still", x, 7, 2);
        x.start();
        x.idle(40);
        Check.due("it is free", x.reachable(), 1);
        Check.counts("it is free", x, 3, 0, 7, 1);
    }

    private static void wholeOfNothing() {
        Check.sentence("Whether all that can be come to from the roots is there (in a block that holds something of that kind).");
        BeatHeap x = Check.heap(4, 1, 200, 0);
        Check.due("at first", x.whole(), true);
        x.make(0, 1, 0);
        x.drop(0);
        x.start();
        x.idle(1);
        Check.counts("all is free", x, 7, 0);
        Check.due("all is free", x.whole(), true);
    }

    private static void wholeInEachStep() {
        Check.sentence("Whether all that can be come to from the roots is there (in a block that holds something of that kind).");
        BeatHeap x = Check.heap(8, 1, 1, 0);
        x.make(0, 2, 1);
        x.make(1, 1, 1);
        x.array(2, 64);
        x.link(0, 0, 1);
        x.link(1, 0, 0);
        x.link(0, 1, 2);
        x.drop(1);
        x.drop(2);
        x.start();
        for (int steps = 0; steps < 60; steps++) {
            Check.due(steps + " steps: whole()", x.whole(), true);
            Check.due(steps + " steps: reachable()", x.reachable(), 5);
            x.idle(1);
        }
        Check.counts("over", x, 3, 0, 4, 1, 7, 5);
    }

    private static void manyCalls() {
        Check.sentence("An object is used for at most 512 calls after it has been made");
        BeatHeap x = Check.heap(64, 1, 200, 64);
        for (int n = 1; n < 511; n++) {
            Check.due("call " + n + ": idle(1000)", x.idle(1000), true);
        }
        // All but the first tick pay for a cycle of 17 steps.
        Check.due("call 512: count(0)", x.count(0), 510_000 + 509_999 * 17);
        x = Check.heap(64, 200, 1, 0);
        for (int n = 1; n < 511; n++) {
            Check.due("call " + n + ": make(0, 1, 2)", x.make(0, 1, 2), 1);
        }
        Check.due("call 512: root(0, 0)", x.root(0, 0), 4 * 509);
    }

    private static void looksTakeNothing() {
        Check.sentence("Nothing is promised beyond the answers and state changes described above");
        BeatHeap x = Check.heap(4, 1, 1, 0);
        x.make(0, 1, 1);
        x.start();
        x.root(0, 0);
        x.word(0);
        x.page(0, 0);
        x.count(0);
        x.share(1);
        x.reachable();
        x.whole();
        Check.counts("looks", x, 0, 2, 2, 0, 3, 1, 5, 1);
        Check.due("looks: root(0, 3)", x.root(0, 3), 0);
    }
}
