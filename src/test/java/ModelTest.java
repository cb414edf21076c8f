import java.util.Random;

/**
 * All promises: long runs of calls, each answer beside the model's. The seeds are fixed, so every
 * run is the same each time.
 */
public final class ModelTest {
    private static final int RUNS = 2500;
    // With the looks at its end, a run stays within the 512 calls that an object is used for.
    private static final int CALLS = 400;
    private static final int[] WILD = {Integer.MIN_VALUE, Integer.MIN_VALUE + 1, -65, -2, -1, 0, 1, 3, 4, 5, 15, 16, 17, 31,
        32, 33, 63, 64, 65, 200, 201, 512, 513, 1000, 1001, 2000, 2001, 4095, 4096, Integer.MAX_VALUE - 1,
        Integer.MAX_VALUE};

    private final Random random;
    private final int wildOneIn;
    private final int fewRoots;
    private final int arrays;
    private final int longestIdle;
    private final BeatHeap x = new BeatHeap();
    private final Model m = new Model();
    private String call;

    private ModelTest(int seed) {
        random = new Random(seed);
        wildOneIn = seed % 5 == 0 ? 4 : 60;
        fewRoots = 2 + random.nextInt(15);
        arrays = random.nextInt(4);
        longestIdle = seed % 50 == 0 ? 1000 : 1 + random.nextInt(40);
    }

    public static void main(String[] args) {
        int[] seenParts = new int[4];
        int[] totals = new int[3];
        for (int seed = 1; seed <= RUNS; seed++) {
            if (!new ModelTest(seed).runAll(seed, seenParts, totals)) {
                Check.due("the run of seed " + seed, false, true);
            }
        }
        for (int part = 0; part < 4; part++) {
            Check.due("part " + part + " was seen often", seenParts[part] > 1000, true);
        }
        Check.due("many cycles were over", totals[0] > 1000, true);
        Check.due("many blocks were freed", totals[1] > 1000, true);
        Check.due("blocks were not to be had often", totals[2] > 1000, true);
        Check.end();
    }

    private boolean runAll(int seed, int[] seenParts, int[] totals) {
        if (seed % 20 != 0) {
            int pages = random.nextInt(3) == 0 ? 4 + random.nextInt(61) : 4 + random.nextInt(5);
            int trigger = random.nextInt(pages + 1);
            int program = random.nextInt(4) == 0 ? 1 + random.nextInt(200) : 1 + random.nextInt(8);
            int own = random.nextInt(4) == 0 ? 1 + random.nextInt(200) : 1 + random.nextInt(8);
            if (!same(x.begin(pages, program, own, trigger), m.begin(pages, program, own, trigger))) {
                return false;
            }
        }
        for (int n = 1; n < CALLS; n++) {
            call = "?";
            if (!oneCall()) {
                System.out.println("seed " + seed + ", call " + n + ": " + call);
                return false;
            }
            seenParts[m.count(3)]++;
        }
        if (!sameAtTheEnd()) {
            System.out.println("seed " + seed + ", at the end: " + call);
            return false;
        }
        totals[0] += m.count(4);
        totals[1] += m.count(9);
        totals[2] += m.count(10);
        return true;
    }

    private boolean sameAtTheEnd() {
        boolean good = true;
        call = "";
        for (int what = 0; what < 13; what++) {
            call = call + " count(" + what + ")";
            good &= same(x.count(what), m.count(what));
        }
        for (int root = 0; root < 16; root++) {
            for (int what = 0; what < 5; what++) {
                call = call + " root(" + root + ", " + what + ")";
                good &= same(x.root(root, what), m.root(root, what));
            }
        }
        return good & same(x.reachable(), m.reachable()) & same(x.whole(), m.whole());
    }

    private boolean same(boolean got, boolean want) {
        return same(got ? 1 : 0, want ? 1 : 0);
    }

    private boolean same(int got, int want) {
        if (got != want) {
            call = call + " answered " + got + ", the model " + want;
        }
        return got == want;
    }

    /** An argument below the bound for the most part, sometimes any. */
    private int below(int bound) {
        if (random.nextInt(wildOneIn) == 0) {
            return WILD[random.nextInt(WILD.length)];
        }
        return random.nextInt(bound);
    }

    private int aRoot() {
        return below(fewRoots);
    }

    private boolean oneCall() {
        int kind = random.nextInt(100);
        if (kind < 55) {
            return doing(kind);
        }
        return look(random.nextInt(30));
    }

    private boolean doing(int kind) {
        int a = aRoot();
        if (kind < 14) {
            int p = below(random.nextInt(3) == 0 ? 32 : 4);
            int n = below(random.nextInt(3) == 0 ? 32 : 4);
            call = "make(" + a + ", " + p + ", " + n + ")";
            return same(x.make(a, p, n), m.make(a, p, n));
        }
        if (kind < 14 + arrays) {
            int size = random.nextInt(3) == 0 ? below(520) : 32 + below(120);
            call = "array(" + a + ", " + size + ")";
            return same(x.array(a, size), m.array(a, size));
        }
        int i = below(4);
        int b = aRoot();
        if (kind < 22) {
            int at = random.nextInt(3) == 0 ? below(520) : i;
            int v = random.nextInt();
            call = "put(" + a + ", " + at + ", " + v + ")";
            return same(x.put(a, at, v), m.put(a, at, v));
        }
        if (kind < 36) {
            int other = random.nextInt(5) == 0 ? -1 : b;
            call = "link(" + a + ", " + i + ", " + other + ")";
            return same(x.link(a, i, other), m.link(a, i, other));
        }
        if (kind < 41) {
            call = "follow(" + a + ", " + i + ", " + b + ")";
            return same(x.follow(a, i, b), m.follow(a, i, b));
        }
        if (kind < 44) {
            call = "move(" + a + ", " + b + ")";
            return same(x.move(a, b), m.move(a, b));
        }
        if (kind < 48) {
            call = "drop(" + a + ")";
            return same(x.drop(a), m.drop(a));
        }
        if (kind < 53) {
            int ticks = 1 + below(longestIdle);
            call = "idle(" + ticks + ")";
            return same(x.idle(ticks), m.idle(ticks));
        }
        if (kind < 54 || random.nextInt(10) != 0) {
            call = "start()";
            return same(x.start(), m.start());
        }
        int pages = below(70);
        int program = below(210);
        int own = below(210);
        int trigger = below(20);
        call = "begin(" + pages + ", " + program + ", " + own + ", " + trigger + ")";
        return same(x.begin(pages, program, own, trigger), m.begin(pages, program, own, trigger));
    }

    private boolean look(int kind) {
        int a = aRoot();
        int what = below(5);
        if (kind < 3) {
            int at = random.nextInt(2) == 0 ? below(520) : below(4);
            call = "get(" + a + ", " + at + ")";
            return same(x.get(a, at), m.get(a, at));
        }
        if (kind < 7) {
            call = "root(" + a + ", " + what + ")";
            return same(x.root(a, what), m.root(a, what));
        }
        if (kind < 11) {
            int address = below(random.nextInt(2) == 0 ? 256 : 4100);
            call = "word(" + address + ")";
            return same(x.word(address), m.word(address));
        }
        if (kind < 15) {
            int page = below(8);
            call = "page(" + page + ", " + what + ")";
            return same(x.page(page, what), m.page(page, what));
        }
        if (kind < 25) {
            what = below(13);
            call = "count(" + what + ")";
            return same(x.count(what), m.count(what));
        }
        if (kind < 27) {
            int window = below(random.nextInt(2) == 0 ? 40 : 2001);
            call = "share(" + window + ")";
            return same(x.share(window), m.share(window));
        }
        if (kind < 29) {
            call = "reachable()";
            return same(x.reachable(), m.reachable());
        }
        call = "whole()";
        return same(x.whole(), m.whole());
    }
}
