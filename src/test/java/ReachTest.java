/** Promises 18 and 19: reachable, whole; and that what can be come to outlives every cycle. */
public final class ReachTest {
    public static void main(String[] args) {
        reaches();
        longChain();
        oldBehindMovedPointer();
        takenInSweep();
        freePageTakenBehindPlace();
        Check.end();
    }

    private static void reaches() {
        BeatHeap x = new BeatHeap();
        Check.due("nothing: reachable()", x.reachable(), 0);
        x.make(0, 2, 0);
        x.move(0, 1);
        Check.due("one of two roots: reachable()", x.reachable(), 1);
        x.link(0, 0, 0);
        Check.due("of itself: reachable()", x.reachable(), 1);
        x.array(2, 512);
        Check.due("and an array: reachable()", x.reachable(), 18);
        x.link(0, 1, 2);
        x.drop(2);
        Check.due("by a pointer: reachable()", x.reachable(), 18);
        int ticks = x.count(0);
        Check.due("by a pointer: whole()", x.whole(), true);
        Check.counts("looks take nothing", x, 0, ticks);
        x.link(1, 1, -1);
        Check.due("lost: reachable()", x.reachable(), 1);
        Check.counts("lost: it holds something still", x, 7, 18);
        x.drop(0);
        Check.due("one root: reachable()", x.reachable(), 1);
        x.drop(1);
        Check.due("no root: reachable()", x.reachable(), 0);
        Check.due("no root: whole()", x.whole(), true);
    }

    private static void longChain() {
        BeatHeap x = new BeatHeap();
        x.begin(64, 1, 200, 0);
        x.make(0, 1, 0);
        for (int n = 1; n < 150; n++) {
            x.make(1, 1, 0);
            x.link(1, 0, 0);
            x.move(1, 0);
        }
        x.drop(1);
        Check.due("chain: reachable()", x.reachable(), 150);
        x.start();
        x.idle(1000);
        Check.counts("chain", x, 4, 1, 7, 150, 9, 0);
        Check.due("chain: whole()", x.whole(), true);
        x.drop(0);
        Check.due("chain lost: reachable()", x.reachable(), 0);
        x.start();
        x.idle(1000);
        Check.counts("chain lost", x, 4, 2, 6, 64, 7, 0, 9, 150);
    }

    /** A pointer goes from one not yet looked into to a root that has been looked at. */
    private static void oldBehindMovedPointer() {
        BeatHeap x = new BeatHeap();
        x.begin(8, 1, 1, 0);
        x.make(0, 0, 1);
        x.make(8, 1, 0);
        x.make(9, 0, 1);
        x.put(9, 0, 77);
        x.link(8, 0, 9);
        x.drop(9);
        x.start();
        x.idle(4);
        x.follow(8, 0, 0);
        x.link(8, 0, -1);
        x.idle(200);
        Check.counts("moved pointer", x, 3, 0, 4, 1, 7, 3);
        Check.due("moved pointer: whole()", x.whole(), true);
        Check.due("moved pointer: get(0, 0)", x.get(0, 0), 77);
        Check.due("moved pointer: reachable()", x.reachable(), 2);
    }

    private static void takenInSweep() {
        BeatHeap x = new BeatHeap();
        x.begin(8, 2, 1, 0);
        x.make(0, 0, 3);
        x.make(1, 0, 3);
        x.make(2, 0, 7);
        x.drop(0);
        x.drop(2);
        x.start();
        x.idle(36);
        Check.counts("SWEEP", x, 2, 18, 3, 3, 12, 0);
        x.idle(2);
        Check.counts("SWEEP, one block free", x, 3, 3, 7, 2, 12, 4);
        x.make(3, 0, 3);
        Check.due("below PLACE: root(3, 0)", x.root(3, 0), 0);
        Check.due("below PLACE: root(3, 3)", x.root(3, 3), 0);
        Check.counts("below PLACE", x, 12, 8);
        x.make(4, 0, 3);
        Check.due("not below PLACE: root(4, 0)", x.root(4, 0), 8);
        Check.counts("the collector has come by", x, 12, 12);
        Check.due("it is so no more: root(4, 3)", x.root(4, 3), 0);
        x.make(5, 0, 6);
        Check.due("further on: root(5, 0)", x.root(5, 0), 72);
        Check.due("further on: root(5, 3)", x.root(5, 3), 1);
        x.idle(100);
        Check.counts("over", x, 3, 0, 4, 1, 7, 4, 9, 2);
        Check.due("over: whole()", x.whole(), true);
        Check.due("over: reachable()", x.reachable(), 4);
        Check.due("over: marks", x.page(0, 2) + x.page(1, 2), 0);
    }

    /** A FREE page that is taken at or behind PLACE is swept in this cycle; one below it is not. */
    private static void freePageTakenBehindPlace() {
        BeatHeap x = new BeatHeap();
        x.begin(8, 9, 1, 0);
        x.make(0, 0, 31);
        x.drop(0);
        x.make(1, 0, 3);
        x.start();
        x.idle(9 * 18);
        Check.counts("SWEEP", x, 2, 18, 3, 3, 12, 0);
        x.idle(18);
        Check.counts("page 0 is FREE", x, 6, 7, 9, 1, 12, 64);
        x.make(2, 0, 7);
        Check.due("page 0 again: root(2, 0)", x.root(2, 0), 0);
        Check.due("page 0 again: root(2, 3)", x.root(2, 3), 0);
        x.make(3, 0, 15);
        Check.due("page 2: root(3, 0)", x.root(3, 0), 128);
        Check.due("page 2: root(3, 3)", x.root(3, 3), 1);
        x.idle(1 + 9 * 15);
        Check.counts("page 1 is swept", x, 2, 36, 3, 3, 12, 128);
        x.idle(9 * 4 - 1);
        Check.counts("three blocks of page 2 are swept", x, 2, 39, 3, 3, 12, 176);
        Check.due("page 2 swept: root(3, 3)", x.root(3, 3), 0);
        x.idle(1);
        Check.counts("over", x, 2, 40, 3, 0, 4, 1, 6, 5, 7, 3);
        Check.due("over: whole()", x.whole(), true);
    }
}
