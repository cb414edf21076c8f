import java.util.ArrayDeque;
import java.util.ArrayList;
import java.util.Arrays;
import java.util.Collections;
import java.util.HashSet;
import java.util.List;
import java.util.Set;

/**
 * The document once more, in things and references instead of words and addresses, so that a fault
 * in the one is not likely to be in the other too.
 */
final class Model {
    private static final int[] SIZE = {4, 8, 16, 32};
    private static final int[] TICKS = {2, 3, 5, 9};

    private static final class Thing {
        final char kind;
        final Thing[] pointers;
        final int[] numbers;
        final int size;
        int address;
        boolean marked;

        Thing(char kind, int pointers, int numbers, int size) {
            this.kind = kind;
            this.pointers = new Thing[pointers];
            this.numbers = new int[numbers];
            this.size = size;
        }
    }

    private static final class Page {
        int sizeClass = -1;
        Thing[] blocks = new Thing[0];

        int held() {
            return (int) Arrays.stream(blocks).filter(t -> t != null).count();
        }
    }

    private List<Page> pages;
    private Thing[] roots;
    private final ArrayDeque<Boolean> latest = new ArrayDeque<>();
    private int programTicks;
    private int collectorTicks;
    private int programQuantum;
    private int collectorQuantum;
    private int trigger;
    private String part;
    private int over;
    private int credit;
    private int freed;
    private int missed;
    private ArrayDeque<Thing> pile;
    private int rootAt;
    private Thing hand;
    private int handAt;
    private int place;

    Model() {
        begin(16, 20, 10, 4);
    }

    boolean begin(int n, int program, int collector, int trigger) {
        boolean good = n >= 4 && n <= 64 && program >= 1 && program <= 200 && collector >= 1 && collector <= 200
                && trigger >= 0 && trigger <= n;
        if (!good) {
            return false;
        }
        pages = new ArrayList<>();
        for (int i = 0; i < n; i++) {
            pages.add(new Page());
        }
        roots = new Thing[16];
        latest.clear();
        programTicks = 0;
        collectorTicks = 0;
        programQuantum = program;
        collectorQuantum = collector;
        this.trigger = trigger;
        part = "rest";
        over = 0;
        freed = 0;
        missed = 0;
        pile = new ArrayDeque<>();
        hand = null;
        return true;
    }

    int make(int root, int pointers, int numbers) {
        if (none(root) || pointers < 0 || pointers > 31 || numbers < 0 || numbers > 31) {
            return -1;
        }
        if (pointers + numbers < 1 || pointers + numbers > 31) {
            return -1;
        }
        return takeForRoot(root, new Thing('o', pointers, numbers, numbers), pointers + numbers + 1) ? 1 : 0;
    }

    int array(int root, int size) {
        if (none(root) || size < 32 || size > 512) {
            return -1;
        }
        Thing spine = new Thing('s', (size + 31) / 32, 0, size);
        if (!takeForRoot(root, spine, spine.pointers.length + 1)) {
            return 0;
        }
        for (int i = 0; i < spine.pointers.length; i++) {
            Thing leaf = new Thing('l', 0, 32, 32);
            if (!take(leaf, 3)) {
                assign(root, null);
                start();
                return 0;
            }
            spine.pointers[i] = leaf;
            behind(9);
        }
        return 1;
    }

    private boolean takeForRoot(int root, Thing thing, int words) {
        int sizeClass = 0;
        while (SIZE[sizeClass] < words) {
            sizeClass++;
        }
        if (!take(thing, sizeClass)) {
            start();
            return false;
        }
        assign(root, thing);
        behind(TICKS[sizeClass]);
        return true;
    }

    private boolean take(Thing thing, int sizeClass) {
        for (int wantClass : new int[] {sizeClass, -1}) {
            for (int p = 0; p < pages.size(); p++) {
                Page page = pages.get(p);
                if (page.sizeClass != wantClass) {
                    continue;
                }
                if (wantClass == -1) {
                    page.sizeClass = sizeClass;
                    page.blocks = new Thing[64 / SIZE[sizeClass]];
                }
                for (int b = 0; b < page.blocks.length; b++) {
                    if (page.blocks[b] == null) {
                        page.blocks[b] = thing;
                        thing.address = 64 * p + b * SIZE[sizeClass];
                        thing.marked = part.equals("ROOTS") || part.equals("MARK")
                                || part.equals("SWEEP") && thing.address >= place;
                        return true;
                    }
                }
            }
        }
        missed++;
        return false;
    }

    private static boolean none(int root) {
        return root < 0 || root > 15;
    }

    private Thing at(int root) {
        return none(root) ? null : roots[root];
    }

    private void assign(int root, Thing thing) {
        beforeChange(roots[root]);
        roots[root] = thing;
    }

    private void beforeChange(Thing old) {
        if (part.equals("ROOTS") || part.equals("MARK")) {
            grey(old);
        }
    }

    private void grey(Thing thing) {
        if (thing != null && !thing.marked) {
            thing.marked = true;
            pile.addLast(thing);
        }
    }

    boolean put(int root, int i, int v) {
        Thing t = at(root);
        if (t == null || i < 0 || i >= t.size) {
            return false;
        }
        if (t.kind == 's') {
            t.pointers[i / 32].numbers[i % 32] = v;
        } else {
            t.numbers[i] = v;
        }
        behind(1);
        return true;
    }

    int get(int root, int i) {
        Thing t = at(root);
        if (t == null || i < 0 || i >= t.size) {
            return 0;
        }
        int v = t.kind == 's' ? t.pointers[i / 32].numbers[i % 32] : t.numbers[i];
        behind(1);
        return v;
    }

    boolean link(int root, int i, int other) {
        Thing t = at(root);
        if (t == null || t.kind == 's' || i < 0 || i >= t.pointers.length || other != -1 && none(other)) {
            return false;
        }
        beforeChange(t.pointers[i]);
        t.pointers[i] = at(other);
        behind(1);
        return true;
    }

    boolean follow(int root, int i, int to) {
        Thing t = at(root);
        if (t == null || t.kind == 's' || i < 0 || i >= t.pointers.length || none(to)) {
            return false;
        }
        assign(to, t.pointers[i]);
        behind(1);
        return true;
    }

    boolean move(int from, int to) {
        if (none(from) || none(to)) {
            return false;
        }
        assign(to, roots[from]);
        behind(1);
        return true;
    }

    boolean drop(int root) {
        if (none(root)) {
            return false;
        }
        assign(root, null);
        behind(1);
        return true;
    }

    boolean idle(int ticks) {
        if (ticks < 1 || ticks > 1000) {
            return false;
        }
        for (int n = 0; n < ticks; n++) {
            behind(1);
        }
        return true;
    }

    boolean start() {
        if (!part.equals("rest")) {
            return false;
        }
        part = "ROOTS";
        rootAt = 0;
        credit = programQuantum;
        return true;
    }

    private void tick(boolean program) {
        latest.addLast(program);
        if (latest.size() > 2000) {
            latest.removeFirst();
        }
        if (program) {
            programTicks++;
        } else {
            collectorTicks++;
        }
    }

    private void behind(int ticks) {
        for (int n = 0; n < ticks; n++) {
            tick(true);
        }
        if (!part.equals("rest")) {
            credit -= ticks;
            while (!part.equals("rest") && credit <= 0) {
                int n = 0;
                while (n < collectorQuantum && !part.equals("rest")) {
                    step();
                    n++;
                }
                credit += programQuantum;
            }
        }
        if (part.equals("rest") && freePages() <= trigger) {
            start();
        }
    }

    private int freePages() {
        return (int) pages.stream().filter(p -> p.sizeClass == -1).count();
    }

    private void step() {
        tick(false);
        if (part.equals("ROOTS")) {
            grey(roots[rootAt++]);
            if (rootAt == 16) {
                part = "MARK";
                hand = null;
            }
        } else if (part.equals("MARK")) {
            if (hand != null && handAt < hand.pointers.length) {
                Thing next = hand.pointers[handAt++];
                if (next != null && next.kind == 'l') {
                    next.marked = true;
                } else {
                    grey(next);
                }
            } else {
                hand = pile.pollLast();
                handAt = 0;
                if (hand == null) {
                    part = "SWEEP";
                    place = 0;
                }
            }
        } else {
            sweep(next());
        }
        if (part.equals("SWEEP") && next() == -1) {
            part = "rest";
            over++;
        }
    }

    /** The address of the first block from the place on. */
    private int next() {
        for (int p = 0; p < pages.size(); p++) {
            Page page = pages.get(p);
            for (int b = 0; b < page.blocks.length; b++) {
                int address = 64 * p + b * SIZE[page.sizeClass];
                if (address >= place) {
                    return address;
                }
            }
        }
        return -1;
    }

    private void sweep(int address) {
        Page page = pages.get(address / 64);
        int size = SIZE[page.sizeClass];
        int b = address % 64 / size;
        Thing t = page.blocks[b];
        if (t != null && t.marked) {
            t.marked = false;
        } else if (t != null) {
            page.blocks[b] = null;
            freed++;
        }
        place = address + size;
        if (b == page.blocks.length - 1 && page.held() == 0) {
            page.sizeClass = -1;
            page.blocks = new Thing[0];
        }
    }

    int root(int root, int what) {
        Thing t = at(root);
        if (t == null || what < 0 || what > 4) {
            return -1;
        }
        return new int[] {t.address, t.pointers.length, t.size, t.marked ? 1 : 0, t.kind == 's' ? 1 : 0}[what];
    }

    int word(int address) {
        if (address < 0 || address >= 64 * pages.size()) {
            return -1;
        }
        Page page = pages.get(address / 64);
        if (page.sizeClass == -1) {
            return 0;
        }
        Thing t = page.blocks[address % 64 / SIZE[page.sizeClass]];
        if (t == null) {
            return 0;
        }
        int i = address - t.address;
        if (t.kind == 'l') {
            return t.numbers[i];
        }
        if (i == 0) {
            return 0;
        }
        i--;
        if (i < t.pointers.length) {
            return t.pointers[i] == null ? 0 : t.pointers[i].address + 1;
        }
        i -= t.pointers.length;
        return i < t.numbers.length ? t.numbers[i] : 0;
    }

    int page(int page, int what) {
        if (page < 0 || page >= pages.size() || what < 0 || what > 2) {
            return -1;
        }
        Page p = pages.get(page);
        int marked = (int) Arrays.stream(p.blocks).filter(t -> t != null && t.marked).count();
        return new int[] {p.sizeClass, p.held(), marked}[what];
    }

    int count(int what) {
        switch (what) {
            case 0: return programTicks + collectorTicks;
            case 1: return programTicks;
            case 2: return collectorTicks;
            case 3: return List.of("rest", "ROOTS", "MARK", "SWEEP").indexOf(part);
            case 4: return over;
            case 5: return part.equals("rest") ? 0 : credit;
            case 6: return freePages();
            case 7: return pages.stream().mapToInt(Page::held).sum();
            case 8: return pile.size();
            case 9: return freed;
            case 10: return missed;
            case 11: return part.equals("MARK") && hand != null ? hand.address : -1;
            case 12: return part.equals("SWEEP") ? next() : -1;
            default: return -1;
        }
    }

    int share(int window) {
        if (window < 1 || window > 2000 || latest.size() < window) {
            return -1;
        }
        List<Integer> sums = new ArrayList<>();
        sums.add(0);
        for (boolean program : latest) {
            sums.add(sums.get(sums.size() - 1) + (program ? 1 : 0));
        }
        List<Integer> shares = new ArrayList<>();
        for (int end = window; end < sums.size(); end++) {
            shares.add(sums.get(end) - sums.get(end - window));
        }
        return Collections.min(shares);
    }

    private Set<Thing> allReached() {
        Set<Thing> seen = new HashSet<>();
        ArrayDeque<Thing> ahead = new ArrayDeque<>();
        for (Thing t : roots) {
            if (t != null && seen.add(t)) {
                ahead.add(t);
            }
        }
        while (!ahead.isEmpty()) {
            for (Thing t : ahead.poll().pointers) {
                if (t != null && seen.add(t)) {
                    ahead.add(t);
                }
            }
        }
        return seen;
    }

    int reachable() {
        return allReached().size();
    }

    boolean whole() {
        for (Thing t : allReached()) {
            Page page = pages.get(t.address / 64);
            if (page.sizeClass == -1 || page.blocks[t.address % 64 / SIZE[page.sizeClass]] != t) {
                return false;
            }
        }
        return true;
    }
}
