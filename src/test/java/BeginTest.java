/** Promises 1 and 2: a new object, begin. */
public final class BeginTest {
    public static void main(String[] args) {
        newObject();
        newObjectTrigger();
        edges();
        refusedChangesNothing();
        allAsAtFirst();
        Check.end();
    }

    private static void newObject() {
        BeatHeap x = new BeatHeap();
        Check.counts("new", x, 0, 0, 1, 0, 2, 0, 3, 0, 4, 0, 5, 0, 6, 16, 7, 0, 8, 0, 9, 0, 10, 0, 11, -1, 12, -1);
        Check.due("new: page(15, 1)", x.page(15, 1), 0);
        Check.due("new: page(16, 1)", x.page(16, 1), -1);
        Check.due("new: word(1023)", x.word(1023), 0);
        Check.due("new: word(1024)", x.word(1024), -1);
        Check.due("new: reachable()", x.reachable(), 0);
        Check.due("new: whole()", x.whole(), true);
        x.start();
        Check.counts("new, start()", x, 3, 1, 5, 20);
        x.idle(19);
        Check.counts("new, idle(19)", x, 2, 0, 5, 1);
        x.idle(1);
        Check.counts("new, idle(20)", x, 1, 20, 2, 10, 3, 1, 5, 20);
    }

    private static void newObjectTrigger() {
        BeatHeap x = new BeatHeap();
        for (int n = 0; n < 22; n++) {
            x.make(0, 0, 31);
        }
        Check.counts("new, 22 large objects", x, 6, 5, 3, 0);
        x.make(0, 0, 31);
        Check.counts("new, 23 large objects", x, 6, 4, 3, 1);
    }

    private static void edges() {
        BeatHeap x = new BeatHeap();
        int[][] good = {{4, 1, 1, 0}, {64, 200, 200, 64}, {4, 200, 1, 4}, {64, 1, 200, 0}, {33, 7, 9, 12}};
        for (int[] a : good) {
            Check.due("begin " + java.util.Arrays.toString(a), x.begin(a[0], a[1], a[2], a[3]), true);
            Check.due("pages", x.count(6), a[0]);
        }
        int[][] bad = {{3, 1, 1, 0}, {65, 1, 1, 0}, {-1, 1, 1, 0}, {4, 0, 1, 0}, {4, 201, 1, 0}, {4, 1, 0, 0},
            {4, 1, 201, 0}, {4, 1, 1, -1}, {4, 1, 1, 5}, {64, 1, 1, 65}, {Integer.MAX_VALUE, 1, 1, 1},
            {Integer.MIN_VALUE, 1, 1, 1}, {8, Integer.MIN_VALUE, 1, 1}, {8, 1, Integer.MAX_VALUE, 1},
            {8, 1, 1, Integer.MIN_VALUE}, {8, 1, 1, Integer.MAX_VALUE}};
        for (int[] a : bad) {
            Check.due("begin " + java.util.Arrays.toString(a), x.begin(a[0], a[1], a[2], a[3]), false);
            Check.due("pages", x.count(6), 33);
        }
    }

    private static void refusedChangesNothing() {
        BeatHeap x = new BeatHeap();
        x.begin(5, 3, 2, 0);
        x.make(2, 1, 1);
        x.put(2, 0, 9);
        x.start();
        x.begin(5, 3, 2, 6);
        Check.counts("begin() refused", x, 0, 3, 3, 1, 5, 3, 6, 4, 7, 1);
        Check.due("begin() refused: word(2)", x.word(2), 9);
        Check.due("begin() refused: root(2, 0)", x.root(2, 0), 0);
    }

    private static void allAsAtFirst() {
        BeatHeap x = new BeatHeap();
        x.begin(4, 1, 3, 4);
        x.make(0, 1, 1);
        x.put(0, 0, 5);
        x.link(0, 0, 0);
        x.array(1, 512);
        x.idle(40);
        x.begin(7, 6, 5, 2);
        Check.counts("begin() again", x,
                0, 0, 1, 0, 2, 0, 3, 0, 4, 0, 5, 0, 6, 7, 7, 0, 8, 0, 9, 0, 10, 0, 11, -1, 12, -1);
        for (int root = 0; root < 16; root++) {
            Check.due("begin() again: root(" + root + ", 0)", x.root(root, 0), -1);
        }
        for (int address = 0; address < 448; address++) {
            Check.due("begin() again: word(" + address + ")", x.word(address), 0);
        }
        Check.due("begin() again: share(1)", x.share(1), -1);
        x.make(0, 0, 3);
        Check.due("begin() again: root(0, 0)", x.root(0, 0), 0);
        Check.due("begin() again: root(0, 3)", x.root(0, 3), 0);
        x.start();
        Check.counts("begin() again, start()", x, 5, 6);
        x.idle(6);
        Check.counts("begin() again, idle(6)", x, 2, 5, 5, 6);
    }
}
