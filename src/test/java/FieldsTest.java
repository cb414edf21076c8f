/** Promises 5 to 8: put, get, link, follow. */
public final class FieldsTest {
    private static final int MIN = Integer.MIN_VALUE;
    private static final int MAX = Integer.MAX_VALUE;

    public static void main(String[] args) {
        numbersOfObjects();
        numbersOfArrays();
        wrongNumbers();
        links();
        wrongLinks();
        linkGreysTheOld();
        linkGreysTheOldInMark();
        follows();
        wrongFollows();
        followGreysTheOld();
        Check.end();
    }

    private static void numbersOfObjects() {
        BeatHeap x = new BeatHeap();
        x.make(3, 2, 3);
        Check.due("put(3, 0, MIN)", x.put(3, 0, MIN), true);
        Check.due("put(3, 2, MAX)", x.put(3, 2, MAX), true);
        Check.counts("put()", x, 1, 5);
        Check.due("get(3, 0)", x.get(3, 0), MIN);
        Check.due("get(3, 1)", x.get(3, 1), 0);
        Check.due("get(3, 2)", x.get(3, 2), MAX);
        Check.counts("get()", x, 1, 8);
        Check.due("behind the pointers: word(3)", x.word(3), MIN);
        Check.due("behind the pointers: word(5)", x.word(5), MAX);
    }

    private static void numbersOfArrays() {
        BeatHeap x = new BeatHeap();
        x.array(0, 70);
        for (int i : new int[] {0, 31, 32, 63, 64, 69}) {
            Check.due("array: put(0, " + i + ")", x.put(0, i, 1000 + i), true);
        }
        for (int i : new int[] {0, 31, 32, 63, 64, 69}) {
            Check.due("array: get(0, " + i + ")", x.get(0, i), 1000 + i);
            Check.due("array: word of number " + i, x.word(64 + i), 1000 + i);
        }
        Check.due("array: get(0, 1)", x.get(0, 1), 0);
    }

    private static void wrongNumbers() {
        BeatHeap x = new BeatHeap();
        x.begin(8, 1, 1, 0);
        x.make(0, 2, 3);
        x.make(1, 2, 0);
        x.array(2, 70);
        int ticks = x.count(0);
        int[][] bad = {{-1, 0}, {16, 0}, {MIN, 0}, {MAX, 0}, {5, 0}, {0, -1}, {0, 3}, {0, MIN}, {0, MAX}, {1, 0}, {2, -1},
            {2, 70}, {2, 95}, {2, MIN}, {2, MAX}};
        for (int[] a : bad) {
            Check.due("put " + a[0] + ", " + a[1], x.put(a[0], a[1], 5), false);
            Check.due("get " + a[0] + ", " + a[1], x.get(a[0], a[1]), 0);
        }
        Check.counts("refused", x, 0, ticks, 3, 0);
        x.begin(4, 1, 1, 4);
        x.put(0, 0, 1);
        x.get(0, 0);
        Check.counts("refused is no doing: no cycle begins", x, 0, 0, 3, 0);
    }

    private static void links() {
        BeatHeap x = new BeatHeap();
        x.make(0, 3, 1);
        x.make(1, 0, 31);
        x.array(2, 32);
        int ticks = x.count(0);
        Check.due("link(0, 0, 1)", x.link(0, 0, 1), true);
        Check.due("link(0, 1, 2)", x.link(0, 1, 2), true);
        Check.due("link(0, 2, 0)", x.link(0, 2, 0), true);
        Check.due("word(1)", x.word(1), 65);
        Check.due("word(2)", x.word(2), x.root(2, 0) + 1);
        Check.due("word(3)", x.word(3), 1);
        Check.due("link(0, 0, NONE)", x.link(0, 0, -1), true);
        Check.due("word(1) NULL", x.word(1), 0);
        Check.due("link(0, 1, of NULL)", x.link(0, 1, 9), true);
        Check.due("word(2) NULL", x.word(2), 0);
        Check.counts("link()", x, 0, ticks + 5);
    }

    private static void wrongLinks() {
        BeatHeap x = new BeatHeap();
        x.make(0, 2, 1);
        x.array(1, 32);
        int ticks = x.count(0);
        int[][] bad = {{-1, 0, 0}, {16, 0, 0}, {MIN, 0, 0}, {MAX, 0, 0}, {5, 0, 0}, {1, 0, 0}, {0, -1, 0}, {0, 2, 0},
            {0, MIN, 0}, {0, MAX, 0}, {0, 0, -2}, {0, 0, 16}, {0, 0, MIN}, {0, 0, MAX}};
        for (int[] a : bad) {
            Check.due("link " + java.util.Arrays.toString(a), x.link(a[0], a[1], a[2]), false);
        }
        Check.counts("link() refused", x, 0, ticks);
        Check.due("link() refused: word(1)", x.word(1), 0);
    }

    private static void linkGreysTheOld() {
        BeatHeap x = new BeatHeap();
        x.make(0, 1, 0);
        x.make(1, 0, 1);
        x.link(0, 0, 1);
        x.start();
        x.link(0, 0, 1);
        Check.counts("the same value in ROOTS", x, 8, 1);
        Check.due("the same value in ROOTS: root(1, 3)", x.root(1, 3), 1);
        Check.due("its owner is not greyed", x.root(0, 3), 0);
        x.link(0, 0, 0);
        Check.counts("the old is marked", x, 8, 1);
        x.link(0, 0, -1);
        Check.counts("the old is the owner", x, 8, 2);
    }

    private static void linkGreysTheOldInMark() {
        BeatHeap x = new BeatHeap();
        x.begin(8, 1, 1, 0);
        x.make(0, 1, 0);
        x.make(1, 0, 1);
        x.link(0, 0, 1);
        x.drop(1);
        x.start();
        x.idle(16);
        Check.counts("MARK begins", x, 3, 2, 8, 1, 11, -1);
        x.link(0, 0, -1);
        Check.counts("the old came on top, so it is at hand", x, 3, 2, 8, 1, 11, 4);
        Check.due("both are marked", x.page(0, 2), 2);
    }

    private static void follows() {
        BeatHeap x = new BeatHeap();
        x.make(0, 2, 0);
        x.make(1, 0, 31);
        x.link(0, 1, 1);
        x.drop(1);
        int ticks = x.count(0);
        Check.due("follow(0, 1, 15)", x.follow(0, 1, 15), true);
        Check.due("root(15, 0)", x.root(15, 0), 64);
        Check.due("follow(0, 0, 15)", x.follow(0, 0, 15), true);
        Check.due("NULL: root(15, 0)", x.root(15, 0), -1);
        Check.due("follow(0, 1, 0)", x.follow(0, 1, 0), true);
        Check.due("onto itself: root(0, 0)", x.root(0, 0), 64);
        Check.counts("follow()", x, 0, ticks + 3);
    }

    private static void wrongFollows() {
        BeatHeap x = new BeatHeap();
        x.make(0, 2, 1);
        x.link(0, 0, 0);
        x.array(1, 32);
        int ticks = x.count(0);
        int[][] bad = {{-1, 0, 3}, {16, 0, 3}, {MIN, 0, 3}, {MAX, 0, 3}, {5, 0, 3}, {1, 0, 3}, {0, -1, 3}, {0, 2, 3},
            {0, MIN, 3}, {0, MAX, 3}, {0, 0, -1}, {0, 0, 16}, {0, 0, MIN}, {0, 0, MAX}};
        for (int[] a : bad) {
            Check.due("follow " + java.util.Arrays.toString(a), x.follow(a[0], a[1], a[2]), false);
        }
        Check.counts("follow() refused", x, 0, ticks);
        Check.due("follow() refused: root(3, 0)", x.root(3, 0), -1);
    }

    private static void followGreysTheOld() {
        BeatHeap x = new BeatHeap();
        x.make(0, 1, 0);
        x.make(1, 0, 1);
        x.make(2, 0, 1);
        x.link(0, 0, 1);
        x.start();
        x.follow(0, 0, 2);
        Check.counts("follow() in ROOTS", x, 8, 1);
        Check.due("the new value is not greyed", x.root(2, 3), 0);
        Check.due("what the root was of is", x.page(0, 2), 1);
    }
}
