/** The boundary cases that "Terms" names of ticks, credit, quanta and the trigger: a test for each sentence. */
public final class TimeEdgesTest {
    private static final int[] FIELDS = {3, 7, 15, 31};
    private static final int[] TICKS = {2, 3, 5, 9};

    public static void main(String[] args) {
        takingByClass();
        failingTakesNothing();
        oneTickEach();
        refusedTakesNothing();
        getOfNothingTakesNothing();
        idleTicks();
        deedsBeforeTicks();
        creditWhenACycleBegins();
        beginningDoingIsNotPaid();
        creditStaysAtRest();
        creditNotAboveZero();
        smallestAndLargestQuantum();
        fewerStepsWhenTheCycleEnds();
        roundsAgain();
        roundsEndWithTheCycle();
        triggerOfNone();
        triggerOfAll();
        triggerBetween();
        triggerBehindTheCollector();
        refusedIsNoDoing();
        Check.end();
    }

    private static void takingByClass() {
        Check.sentence("to take a block 2, 3, 5, 9 by its class");
        for (int c = 0; c < 4; c++) {
            BeatHeap x = Check.heap(4, 200, 1, 0);
            x.start();
            x.make(0, 0, FIELDS[c]);
            Check.counts("class " + c, x, 0, TICKS[c], 1, TICKS[c], 5, 200 - TICKS[c]);
        }
    }

    private static void failingTakesNothing() {
        Check.sentence("(nothing if it fails)");
        BeatHeap x = Check.heap(4, 10, 1, 0);
        for (int n = 0; n < 8; n++) {
            x.make(n, 0, 31);
        }
        Check.counts("full", x, 0, 72, 3, 1, 5, 1);
        Check.due("make() fails", x.make(9, 0, 31), 0);
        Check.due("array() fails", x.array(9, 32), 0);
        Check.counts("failed", x, 0, 72, 2, 0, 3, 1, 5, 1, 10, 2);
    }

    private static void oneTickEach() {
        Check.sentence("put(), get() (of what there is), link(), follow(), move(), drop(), not refused, 1");
        BeatHeap x = Check.heap(8, 200, 1, 0);
        x.make(0, 1, 1);
        x.array(1, 32);
        x.start();
        int ticks = x.count(1);
        boolean[] done = {x.put(0, 0, 1), x.put(1, 31, 1), x.get(0, 0) == 1, x.get(1, 31) == 1, x.link(0, 0, 1),
            x.follow(0, 0, 2), x.move(0, 3), x.drop(3), x.drop(3), x.get(0, 0) == 1};
        for (boolean d : done) {
            Check.due("not refused", d, true);
        }
        Check.counts("1 each", x, 1, ticks + done.length, 2, 0, 5, 200 - done.length);
    }

    private static void refusedTakesNothing() {
        Check.sentence("put(), get() (of what there is), link(), follow(), move(), drop(), not refused, 1");
        BeatHeap x = Check.heap(8, 1, 1, 0);
        x.make(0, 1, 1);
        x.array(1, 32);
        x.start();
        int ticks = x.count(0);
        boolean[] done = {x.put(0, 1, 1), x.put(1, 32, 1), x.put(2, 0, 1), x.link(0, 1, 0), x.link(1, 0, 0), x.link(2, 0, 0),
            x.link(0, 0, 16), x.follow(0, 1, 3), x.follow(1, 0, 3), x.follow(2, 0, 3), x.follow(0, 0, -1), x.move(16, 0),
            x.move(0, 16), x.drop(16), x.idle(0), x.idle(1001), x.start(), x.begin(3, 1, 1, 0), x.make(0, 0, 0) != -1,
            x.array(0, 31) != -1};
        for (boolean d : done) {
            Check.due("refused", d, false);
        }
        Check.counts("nothing", x, 0, ticks, 1, ticks, 2, 0, 3, 1, 5, 1);
    }

    private static void getOfNothingTakesNothing() {
        Check.sentence("get() (of what there is)");
        BeatHeap x = Check.heap(8, 1, 1, 0);
        x.make(0, 1, 1);
        x.array(1, 32);
        x.start();
        int ticks = x.count(0);
        int[][] nothing = {{0, 1}, {0, -1}, {1, 32}, {1, -1}, {2, 0}, {-1, 0}, {16, 0}};
        for (int[] a : nothing) {
            Check.due("get(" + a[0] + ", " + a[1] + ")", x.get(a[0], a[1]), 0);
        }
        Check.counts("nothing", x, 0, ticks, 5, 1);
        Check.due("get(0, 0) of a number that is 0", x.get(0, 0), 0);
        Check.counts("it takes one, and a step follows", x, 0, ticks + 2);
    }

    private static void idleTicks() {
        Check.sentence("idle(n) n times 1");
        for (int n : new int[] {1, 2, 999, 1000}) {
            BeatHeap x = Check.heap(4, 200, 1, 0);
            x.idle(n);
            Check.counts("idle(" + n + ")", x, 0, n, 1, n, 2, 0);
        }
        // Nine ticks at once would make the same steps, but behind each other: ppppppppp ccc.
        BeatHeap x = Check.heap(4, 3, 1, 0);
        x.start();
        x.idle(9);
        Check.counts("pppcpppcpppc", x, 1, 9, 2, 3, 5, 3);
        Check.due("pppcpppcpppc: share(2)", x.share(2), 1);
    }

    private static void deedsBeforeTicks() {
        Check.sentence("What they do comes first, then the ticks, then what follows from them.");
        BeatHeap x = Check.heap(8, 1, 200, 0);
        x.start();
        x.make(0, 0, 31);
        Check.counts("the cycle that the taking pays for", x, 3, 0, 4, 1, 7, 1, 9, 0);
        x.start();
        x.drop(0);
        Check.counts("dropped in ROOTS: it is greyed", x, 4, 2, 7, 1, 9, 0);
        x.start();
        x.idle(1);
        Check.counts("dropped before: it is free", x, 4, 3, 7, 0, 9, 1);
    }

    private static void creditWhenACycleBegins() {
        Check.sentence("When a cycle begins, the program has CREDIT: the program's QUANTUM.");
        for (int quantum : new int[] {1, 2, 199, 200}) {
            BeatHeap x = Check.heap(4, quantum, 200, 0);
            x.start();
            Check.counts("quantum " + quantum, x, 5, quantum);
            x.idle(quantum);
            Check.counts("quantum " + quantum + ", over", x, 3, 0, 4, 1, 5, 0);
            x.start();
            Check.counts("quantum " + quantum + ", the next cycle", x, 5, quantum);
        }
    }

    private static void beginningDoingIsNotPaid() {
        Check.sentence("What the program's doings take in a cycle, goes off it");
        BeatHeap x = Check.heap(4, 7, 1, 3);
        x.make(0, 0, 31);
        Check.counts("the doing that began the cycle", x, 1, 9, 2, 0, 3, 1, 5, 7);
        x.make(0, 0, 31);
        Check.counts("9 off 7, and one round", x, 1, 18, 2, 1, 5, 5);
    }

    private static void creditStaysAtRest() {
        Check.sentence("What the program's doings take in a cycle, goes off it");
        BeatHeap x = Check.heap(4, 7, 1, 0);
        x.idle(1000);
        Check.counts("at rest", x, 1, 1000, 2, 0, 3, 0, 5, 0);
        x.start();
        Check.counts("then a cycle begins", x, 2, 0, 5, 7);
    }

    private static void creditNotAboveZero() {
        Check.sentence("when it is not above 0 behind them, the collector makes as many steps as ITS quantum has");
        BeatHeap x = Check.heap(8, 4, 3, 0);
        x.make(0, 0, 1);
        x.start();
        x.idle(3);
        Check.counts("1 is above 0", x, 2, 0, 5, 1);
        x.put(0, 0, 1);
        Check.counts("0 is not", x, 2, 3, 5, 4);
        x.idle(3);
        x.make(1, 0, 1);
        Check.counts("below 0", x, 2, 6, 5, 3);
    }

    private static void smallestAndLargestQuantum() {
        Check.sentence("the collector makes as many steps as ITS quantum has");
        for (int quantum : new int[] {1, 2, 199, 200}) {
            BeatHeap x = Check.heap(64, 200, quantum, 0);
            for (int root = 0; root < 16; root++) {
                x.make(root, 31, 0);
            }
            x.start();
            x.idle(199);
            Check.counts("quantum " + quantum, x, 2, 0, 5, 1);
            x.idle(1);
            // A cycle here has 16 + 16 + 496 steps before SWEEP.
            Check.counts("quantum " + quantum, x, 2, quantum, 3, quantum < 16 ? 1 : 2, 5, 200);
        }
    }

    private static void fewerStepsWhenTheCycleEnds() {
        Check.sentence("(fewer, if the cycle ends)");
        int[] quanta = {16, 17, 18, 200};
        for (int quantum : quanta) {
            BeatHeap x = Check.heap(4, 1, quantum, 0);
            x.start();
            x.idle(1);
            boolean over = quantum >= 17;
            Check.counts("quantum " + quantum, x, 2, over ? 17 : quantum, 3, over ? 0 : 2, 4, over ? 1 : 0, 5, over ? 0 : 1);
        }
    }

    private static void roundsAgain() {
        Check.sentence("so again, as long as the cycle goes on and the credit is not above 0");
        BeatHeap x = Check.heap(8, 1, 1, 0);
        x.start();
        x.make(0, 0, 31);
        Check.counts("9 off 1: up from -8 by 1", x, 1, 9, 2, 9, 5, 1);
        x = Check.heap(8, 4, 2, 0);
        x.start();
        x.idle(3);
        x.make(0, 0, 31);
        Check.counts("9 off 1: -8, -4, 0, 4", x, 1, 12, 2, 6, 5, 4);
        x = Check.heap(8, 8, 2, 0);
        x.start();
        x.make(0, 0, 31);
        Check.counts("9 off 8: -1, 7", x, 1, 9, 2, 2, 5, 7);
        Check.due("all the program's first, then the collector's: share(2)", x.share(2), 0);
        Check.due("all the program's first: share(3)", x.share(3), 1);
    }

    private static void roundsEndWithTheCycle() {
        Check.sentence("so again, as long as the cycle goes on and the credit is not above 0");
        BeatHeap x = Check.heap(4, 1, 10, 0);
        x.start();
        x.make(0, 0, 31);
        // 16 roots, the step that begins SWEEP and two blocks: in the second of nine rounds it is over.
        Check.counts("over in the second round", x, 1, 9, 2, 19, 3, 0, 4, 1, 5, 0);
    }

    private static void triggerOfNone() {
        Check.sentence("at rest, and no more FREE pages than the TRIGGER: a cycle begins");
        BeatHeap x = Check.heap(4, 200, 1, 0);
        for (int n = 0; n < 6; n++) {
            x.make(n, 0, 31);
        }
        Check.counts("1 FREE page, trigger 0", x, 6, 1, 3, 0);
        x.make(6, 0, 31);
        Check.counts("0 FREE pages, trigger 0", x, 6, 0, 3, 1, 5, 200);
    }

    private static void triggerOfAll() {
        Check.sentence("at rest, and no more FREE pages than the TRIGGER: a cycle begins");
        for (int pages : new int[] {4, 64}) {
            BeatHeap x = Check.heap(pages, 200, 1, pages);
            Check.counts("begin() is no doing", x, 6, pages, 3, 0);
            x.drop(0);
            Check.counts("all are FREE, trigger of all", x, 6, pages, 3, 1, 5, 200);
            x = Check.heap(pages, 200, 1, pages - 1);
            x.drop(0);
            Check.counts("all are FREE, one more than the trigger", x, 6, pages, 3, 0);
        }
    }

    private static void triggerBetween() {
        Check.sentence("at rest, and no more FREE pages than the TRIGGER: a cycle begins");
        for (int trigger = 0; trigger < 10; trigger++) {
            BeatHeap x = Check.heap(10, 200, 1, trigger);
            for (int free = 9; free > trigger; free--) {
                x.make(0, 0, 31);
                x.make(0, 0, 31);
                Check.counts("trigger " + trigger, x, 6, free, 3, 0);
            }
            x.make(0, 0, 31);
            Check.counts("trigger " + trigger, x, 6, trigger, 3, 1);
        }
    }

    private static void triggerBehindTheCollector() {
        Check.sentence("Behind each doing of the program and what the collector does then");
        BeatHeap x = Check.heap(4, 1, 200, 3);
        x.make(0, 0, 31);
        Check.counts("3 FREE pages", x, 3, 1);
        x.drop(0);
        Check.counts("over, 3 FREE pages still: the next one begins", x, 2, 20, 3, 1, 4, 1, 6, 3);
        x.idle(1);
        Check.counts("over, 4 FREE pages: none begins", x, 3, 0, 4, 2, 6, 4);
        x.idle(5);
        Check.counts("rest", x, 3, 0, 4, 2);
    }

    private static void refusedIsNoDoing() {
        Check.sentence("Behind each doing of the program and what the collector does then");
        BeatHeap x = Check.heap(4, 1, 1, 4);
        x.put(0, 0, 1);
        x.get(0, 0);
        x.link(0, 0, 0);
        x.follow(0, 0, 0);
        x.move(16, 0);
        x.drop(16);
        x.idle(0);
        x.make(0, 0, 0);
        x.array(0, 31);
        x.begin(3, 1, 1, 1);
        Check.counts("refused: no cycle begins", x, 0, 0, 3, 0);
        x.reachable();
        x.whole();
        x.root(0, 0);
        x.word(0);
        x.page(0, 0);
        x.share(1);
        Check.counts("looks: no cycle begins", x, 0, 0, 3, 0);
        x.move(0, 1);
        Check.counts("a doing: a cycle begins", x, 0, 1, 3, 1);
    }
}
