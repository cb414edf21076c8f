/** Promises 11, 12 and 17: idle, start, share; and how credit and quanta share the time. */
public final class TimeTest {
    private static final int MIN = Integer.MIN_VALUE;
    private static final int MAX = Integer.MAX_VALUE;

    public static void main(String[] args) {
        idles();
        starts();
        emptyCycle();
        credit();
        triggerBehindACycle();
        shares();
        latestTicksAlone();
        Check.end();
    }

    private static void idles() {
        BeatHeap x = new BeatHeap();
        Check.due("idle(1)", x.idle(1), true);
        Check.due("idle(1000)", x.idle(1000), true);
        for (int ticks : new int[] {0, -1, 1001, MIN, MAX}) {
            Check.due("idle(" + ticks + ")", x.idle(ticks), false);
        }
        Check.counts("idle()", x, 0, 1001, 1, 1001, 2, 0, 3, 0);
        x.begin(4, 2, 3, 4);
        x.idle(1);
        Check.counts("a cycle begins behind the first tick", x, 0, 1, 3, 1, 5, 2);
        x.idle(3);
        Check.counts("one doing each", x, 0, 7, 1, 4, 2, 3, 5, 1);
    }

    private static void starts() {
        BeatHeap x = new BeatHeap();
        x.begin(4, 7, 3, 0);
        Check.due("start()", x.start(), true);
        Check.counts("start()", x, 0, 0, 3, 1, 5, 7);
        Check.due("start() once more", x.start(), false);
        x.idle(2);
        Check.due("start() in a cycle", x.start(), false);
        Check.counts("start() in a cycle", x, 3, 1, 5, 5);
    }

    /** 16 roots, then the step that finds an empty pile: no block is there to be swept. */
    private static void emptyCycle() {
        BeatHeap x = new BeatHeap();
        x.begin(4, 1, 1, 0);
        x.start();
        x.idle(15);
        Check.counts("15 roots", x, 3, 1, 2, 15);
        x.idle(1);
        Check.counts("16 roots", x, 3, 2, 2, 16, 11, -1);
        x.idle(1);
        Check.counts("over", x, 2, 17, 3, 0, 4, 1, 5, 0, 12, -1);
        x.idle(5);
        Check.counts("rest", x, 0, 39, 1, 22, 2, 17, 3, 0);
        x.begin(4, 1, 200, 0);
        x.start();
        x.idle(1);
        Check.counts("fewer steps than the quantum", x, 1, 1, 2, 17, 3, 0, 4, 1);
    }

    private static void credit() {
        BeatHeap x = new BeatHeap();
        x.begin(8, 4, 2, 0);
        x.start();
        x.make(0, 0, 31);
        Check.counts("9 off 4: two rounds", x, 1, 9, 2, 4, 5, 3);
        x.make(0, 0, 7);
        Check.counts("3 off 3: one round", x, 1, 12, 2, 6, 5, 4);
        x.make(0, 0, 15);
        Check.counts("5 off 4: one round", x, 1, 17, 2, 8, 5, 3);
        x.make(0, 0, 3);
        Check.counts("2 off 3: none", x, 1, 19, 2, 8, 5, 1);
        x.put(0, 0, 1);
        Check.counts("1 off 1: one round", x, 1, 20, 2, 10, 5, 4);
        x.begin(8, 1, 1, 0);
        x.start();
        x.make(0, 0, 31);
        Check.counts("9 off 1: nine rounds", x, 1, 9, 2, 9, 5, 1);
        x.begin(8, 200, 200, 0);
        x.start();
        x.idle(199);
        Check.counts("199 off 200", x, 2, 0, 5, 1);
        x.idle(1);
        Check.counts("200 off 200", x, 2, 17, 3, 0, 5, 0);
    }

    /** Behind the doing in which a cycle ends, the next one may begin, with its own credit. */
    private static void triggerBehindACycle() {
        BeatHeap x = new BeatHeap();
        x.begin(4, 3, 200, 4);
        x.idle(1);
        x.idle(3);
        Check.counts("over and begun again", x, 1, 4, 2, 17, 3, 1, 4, 1, 5, 3);
        x.begin(4, 3, 200, 3);
        x.idle(4);
        Check.counts("more FREE pages than the trigger", x, 2, 0, 3, 0, 4, 0);
        x.make(0, 0, 3);
        Check.counts("as many as the trigger", x, 3, 1, 5, 3);
    }

    private static void shares() {
        BeatHeap x = new BeatHeap();
        Check.due("no tick yet: share(1)", x.share(1), -1);
        x.begin(4, 5, 3, 0);
        x.idle(4);
        Check.due("4 ticks: share(4)", x.share(4), 4);
        Check.due("4 ticks: share(5)", x.share(5), -1);
        x.start();
        x.idle(10);
        // pppp ppppp ccc ppppp ccc
        int[] want = {-1, 0, 0, 0, 1, 2, 3, 4, 5, 5, 5, 5, 6, 7, 8, 9, 10, 11, 12, 13, 14, -1};
        for (int window = 0; window < want.length; window++) {
            Check.due("20 ticks: share(" + window + ")", x.share(window), want[window]);
        }
        for (int window : new int[] {-1, 2000, 2001, MIN, MAX}) {
            Check.due("share(" + window + ")", x.share(window), -1);
        }
    }

    private static void latestTicksAlone() {
        BeatHeap x = new BeatHeap();
        x.begin(4, 1, 200, 0);
        x.start();
        x.idle(1);
        Check.counts("1 and 17", x, 1, 1, 2, 17);
        x.idle(1000);
        x.idle(981);
        Check.due("1999 ticks: share(2000)", x.share(2000), -1);
        x.idle(1);
        Check.due("2000 ticks: share(2000)", x.share(2000), 2000 - 17);
        Check.due("2000 ticks: share(17)", x.share(17), 0);
        Check.due("2000 ticks: share(1)", x.share(1), 0);
        x.idle(1);
        Check.due("the first one left: share(2000)", x.share(2000), 2000 - 17);
        x.idle(16);
        Check.due("one step is left: share(2000)", x.share(2000), 1999);
        Check.due("one step is left: share(17)", x.share(17), 16);
        Check.due("one step is left: share(1)", x.share(1), 0);
        x.idle(1);
        Check.due("none is left: share(1)", x.share(1), 1);
        Check.due("none is left: share(2000)", x.share(2000), 2000);
        Check.due("share(2001)", x.share(2001), -1);
    }
}
