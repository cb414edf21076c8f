/** Promises 14, 15 and 16: word, page, count. */
public final class LooksTest {
    private static final int MIN = Integer.MIN_VALUE;
    private static final int MAX = Integer.MAX_VALUE;

    public static void main(String[] args) {
        words();
        pages();
        counts();
        wrongInputs();
        Check.end();
    }

    private static void words() {
        BeatHeap x = new BeatHeap();
        x.begin(4, 1, 1, 0);
        x.make(0, 1, 2);
        x.array(1, 33);
        x.link(0, 0, 1);
        x.put(0, 0, 11);
        x.put(0, 1, -12);
        x.put(1, 0, -1);
        x.put(1, 32, 14);
        int[][] want = {{0, 0}, {1, 5}, {2, 11}, {3, -12}, {4, 0}, {5, 65}, {6, 97}, {7, 0}, {63, 0}, {64, -1}, {65, 0},
            {96, 14}, {128, 0}, {255, 0}, {256, -1}, {-1, -1}, {MIN, -1}, {MAX, -1}};
        for (int[] w : want) {
            Check.due("word(" + w[0] + ")", x.word(w[0]), w[1]);
        }
        x.drop(0);
        x.drop(1);
        x.start();
        x.idle(100);
        Check.counts("all is free", x, 7, 0);
        for (int address = 0; address < 256; address++) {
            Check.due("free: word(" + address + ")", x.word(address), 0);
        }
    }

    private static void pages() {
        BeatHeap x = new BeatHeap();
        x.begin(4, 1, 1, 0);
        x.make(0, 0, 3);
        x.make(1, 0, 3);
        x.make(2, 0, 15);
        int[][] want = {{0, 2, 0}, {2, 1, 0}, {-1, 0, 0}, {-1, 0, 0}};
        lookAt(x, want);
        x.start();
        x.idle(1);
        want[0][2] = 1;
        lookAt(x, want);
        x.make(3, 0, 31);
        want[0][2] = 2;
        want[1][2] = 1;
        want[2] = new int[] {3, 1, 1};
        lookAt(x, want);
        x.drop(0);
        x.drop(1);
        x.drop(2);
        x.drop(3);
        x.idle(200);
        Check.counts("one cycle", x, 3, 0, 4, 1, 7, 4);
        x.start();
        x.idle(17);
        Check.counts("SWEEP", x, 3, 3, 12, 0);
        x.idle(15);
        want = new int[][] {{0, 0, 0}, {2, 1, 0}, {3, 1, 0}, {-1, 0, 0}};
        lookAt(x, want);
        Check.counts("before the last block of page 0", x, 6, 1, 12, 60);
        x.idle(1);
        want[0][0] = -1;
        lookAt(x, want);
        Check.counts("behind it", x, 6, 2, 12, 64);
    }

    private static void lookAt(BeatHeap x, int[][] want) {
        for (int page = 0; page < want.length; page++) {
            for (int what = 0; what < 3; what++) {
                Check.due("page(" + page + ", " + what + ")", x.page(page, what), want[page][what]);
            }
        }
        Check.due("page behind the last", x.page(want.length, 1), -1);
    }

    private static void counts() {
        BeatHeap x = new BeatHeap();
        x.begin(6, 1, 1, 0);
        x.make(0, 2, 0);
        x.make(1, 0, 1);
        x.array(2, 40);
        x.link(0, 0, 1);
        x.link(0, 1, 2);
        x.drop(1);
        x.make(1, 0, 31);
        x.drop(1);
        Check.counts("rest", x, 0, 37, 1, 37, 2, 0, 3, 0, 4, 0, 5, 0, 6, 3, 7, 6, 8, 0, 9, 0, 10, 0, 11, -1, 12, -1);
        x.start();
        x.idle(3);
        Check.counts("ROOTS", x, 2, 3, 3, 1, 5, 1, 8, 2, 11, -1, 12, -1);
        x.idle(13);
        Check.counts("MARK begins", x, 2, 16, 3, 2, 8, 2, 11, -1, 12, -1);
        x.idle(1);
        Check.counts("the array is at hand", x, 3, 2, 8, 1, 11, 8);
        x.idle(2);
        Check.counts("its leaves are marked", x, 3, 2, 8, 1, 11, 8);
        Check.due("its leaves are marked: page(1, 2)", x.page(1, 2), 2);
        x.idle(1);
        Check.counts("the first object is at hand", x, 8, 0, 11, 0);
        x.idle(1);
        Check.counts("its first pointer is grey", x, 8, 1, 11, 0);
        x.idle(1);
        Check.counts("its second one was marked", x, 8, 1, 11, 0);
        x.idle(1);
        Check.counts("the second object is at hand", x, 3, 2, 8, 0, 11, 4);
        x.idle(1);
        Check.counts("SWEEP", x, 2, 24, 3, 3, 8, 0, 11, -1, 12, 0);
        x.idle(16);
        Check.counts("page 0 is swept", x, 3, 3, 9, 0, 12, 64);
        x.idle(2);
        Check.counts("page 1 is swept", x, 3, 3, 9, 0, 12, 128);
        x.idle(1);
        Check.counts("the dead one is free", x, 3, 3, 6, 3, 7, 5, 9, 1, 12, 160);
        x.idle(1);
        Check.counts("over", x, 2, 44, 3, 0, 4, 1, 5, 0, 6, 4, 7, 5, 9, 1, 12, -1);
    }

    private static void wrongInputs() {
        BeatHeap x = new BeatHeap();
        x.idle(5);
        for (int what : new int[] {-1, 13, MIN, MAX}) {
            Check.due("count(" + what + ")", x.count(what), -1);
        }
        for (int what : new int[] {-1, 3, MIN, MAX}) {
            Check.due("page(0, " + what + ")", x.page(0, what), -1);
        }
        for (int page : new int[] {-1, 16, 64, MIN, MAX}) {
            for (int what = 0; what < 3; what++) {
                Check.due("page(" + page + ", " + what + ")", x.page(page, what), -1);
            }
        }
    }
}
