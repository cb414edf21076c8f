import java.util.Arrays;

/**
 * A heap in pages whose dead blocks are found and freed by a collector that goes on in small
 * pieces of time, between which the program has its share in every window.
 */
public final class BeatHeap {
    public static final int NONE = -1;

    private static final int LEAST_PAGES = 4;
    private static final int MOST_PAGES = 64;
    private static final int PAGE_WORDS = 64;
    private static final int MOST_WORDS = MOST_PAGES * PAGE_WORDS;
    // No block is smaller than this, so what is kept of blocks needs a slot for every so many words.
    private static final int SLOT_WORDS = 4;
    private static final int PAGE_SLOTS = PAGE_WORDS / SLOT_WORDS;
    private static final int MOST_SLOTS = MOST_WORDS / SLOT_WORDS;
    private static final int[] BLOCK_WORDS = {4, 8, 16, 32};
    private static final int[] TAKE_TICKS = {2, 3, 5, 9};
    private static final int LEAF_CLASS = 3;
    private static final int LEAF_NUMBERS = 32;

    private static final int VACANT = 0;
    private static final int OBJECT = 1;
    private static final int SPINE = 2;
    private static final int LEAF = 3;

    private static final int REST = 0;
    private static final int ROOTS = 1;
    private static final int MARK = 2;
    private static final int SWEEP = 3;

    private static final int ROOT_COUNT = 16;
    private static final int MOST_FIELDS = 31;
    private static final int LEAST_ARRAY = 32;
    private static final int MOST_ARRAY = 512;
    private static final int MOST_QUANTUM = 200;
    private static final int MOST_IDLE = 1000;
    private static final int LATEST_TICKS = 2000;
    // A doing takes 9 ticks at the most and a quantum is 1 at the least: some nine rounds are enough.
    private static final int MOST_ROUNDS = 1000;

    private final Collector collector;
    private final Blocks blocks;
    private final Clock clock;
    private final int[] roots;
    private final Walk walk;
    private int misses;

    public BeatHeap() {
        collector = new Collector();
        blocks = collector.blocks;
        clock = collector.clock;
        roots = collector.roots;
        walk = new Walk();
        setAll(16, 20, 10, 4);
    }

    public boolean begin(int pages, int program, int collector, int trigger) {
        if (!within(pages, LEAST_PAGES, MOST_PAGES) || !within(trigger, 0, pages)) {
            return false;
        }
        if (!within(program, 1, MOST_QUANTUM) || !within(collector, 1, MOST_QUANTUM)) {
            return false;
        }
        setAll(pages, program, collector, trigger);
        return true;
    }

    public int make(int root, int pointers, int numbers) {
        if (!isRoot(root) || !within(pointers, 0, MOST_FIELDS) || !within(numbers, 0, MOST_FIELDS)) {
            return NONE;
        }
        if (!within(pointers + numbers, 1, MOST_FIELDS)) {
            return NONE;
        }
        int sizeClass = leastClass(pointers + numbers + 1);
        if (!takeForRoot(root, sizeClass, OBJECT, pointers, numbers)) {
            return 0;
        }
        collector.spend(takeTicks(sizeClass));
        return 1;
    }

    public int array(int root, int size) {
        if (!isRoot(root) || !within(size, LEAST_ARRAY, MOST_ARRAY)) {
            return NONE;
        }
        int leaves = (size + LEAF_NUMBERS - 1) / LEAF_NUMBERS;
        int sizeClass = leastClass(leaves + 1);
        if (!takeForRoot(root, sizeClass, SPINE, leaves, size)) {
            return 0;
        }
        collector.spend(takeTicks(sizeClass));
        for (int i = 0; i < leaves; i++) {
            if (!takeLeaf(root, i)) {
                return 0;
            }
            collector.spend(takeTicks(LEAF_CLASS));
        }
        return 1;
    }

    public boolean put(int root, int i, int v) {
        int address = numberAddress(root, i);
        if (address == NONE) {
            return false;
        }
        blocks.setWord(address, v);
        collector.spend(1);
        return true;
    }

    public int get(int root, int i) {
        int address = numberAddress(root, i);
        if (address == NONE) {
            return 0;
        }
        int value = blocks.wordAt(address);
        collector.spend(1);
        return value;
    }

    public boolean link(int root, int i, int other) {
        int address = pointerAddress(root, i);
        if (address == NONE || (other != NONE && !isRoot(other))) {
            return false;
        }
        collector.greyOld(blocks.pointerAt(address));
        blocks.setPointer(address, rootOrNone(other));
        collector.spend(1);
        return true;
    }

    public boolean follow(int root, int i, int to) {
        int address = pointerAddress(root, i);
        if (address == NONE || !isRoot(to)) {
            return false;
        }
        setRoot(to, blocks.pointerAt(address));
        collector.spend(1);
        return true;
    }

    public boolean move(int from, int to) {
        if (!isRoot(from) || !isRoot(to)) {
            return false;
        }
        setRoot(to, roots[from]);
        collector.spend(1);
        return true;
    }

    public boolean drop(int root) {
        if (!isRoot(root)) {
            return false;
        }
        setRoot(root, NONE);
        collector.spend(1);
        return true;
    }

    public boolean idle(int ticks) {
        if (!within(ticks, 1, MOST_IDLE)) {
            return false;
        }
        for (int n = 0; n < ticks; n++) {
            collector.spend(1);
        }
        return true;
    }

    public boolean start() {
        return collector.beginCycle();
    }

    public int root(int root, int what) {
        int address = rootOrNone(root);
        if (address == NONE) {
            return NONE;
        }
        switch (what) {
            case 0:
                return address;
            case 1:
                return blocks.pointersOf(address);
            case 2:
                return blocks.numbersOf(address);
            case 3:
                return blocks.isMarked(address) ? 1 : 0;
            case 4:
                return blocks.kindOf(address) == SPINE ? 1 : 0;
            default:
                return NONE;
        }
    }

    public int word(int address) {
        return blocks.isInside(address) ? blocks.wordAt(address) : NONE;
    }

    public int page(int page, int what) {
        switch (what) {
            case 0:
                return blocks.classOf(page);
            case 1:
                return blocks.heldIn(page);
            case 2:
                return blocks.markedIn(page);
            default:
                return NONE;
        }
    }

    public int count(int what) {
        switch (what) {
            case 0:
                return clock.programs + clock.collectors;
            case 1:
                return clock.programs;
            case 2:
                return clock.collectors;
            case 6:
                return blocks.freePages;
            case 7:
                return blocks.heldInAll;
            case 9:
                return blocks.freedInAll;
            case 10:
                return misses;
            default:
                return collector.countOf(what);
        }
    }

    public int share(int window) {
        return clock.fewestPrograms(window);
    }

    public int reachable() {
        walk.goFrom(roots, blocks);
        return walk.found;
    }

    public boolean whole() {
        walk.goFrom(roots, blocks);
        return walk.sound;
    }

    private static boolean within(int value, int least, int most) {
        return value >= least && value <= most;
    }

    private static boolean isRoot(int root) {
        return root >= 0 && root < ROOT_COUNT;
    }

    private static boolean isClass(int sizeClass) {
        return sizeClass >= 0 && sizeClass < BLOCK_WORDS.length;
    }

    /** Never 0, so that loops by it end and divisions by it hold. */
    private static int blockWords(int sizeClass) {
        return isClass(sizeClass) ? BLOCK_WORDS[sizeClass] : PAGE_WORDS;
    }

    private static int takeTicks(int sizeClass) {
        return isClass(sizeClass) ? TAKE_TICKS[sizeClass] : 0;
    }

    private static int leastClass(int words) {
        for (int sizeClass = 0; sizeClass < BLOCK_WORDS.length; sizeClass++) {
            if (words <= BLOCK_WORDS[sizeClass]) {
                return sizeClass;
            }
        }
        return NONE;
    }

    private void setAll(int pages, int program, int collectors, int trigger) {
        Arrays.fill(roots, NONE);
        misses = 0;
        blocks.clearAll(pages);
        clock.clearAll();
        collector.clearAll(program, collectors, trigger);
    }

    private int rootOrNone(int root) {
        return isRoot(root) ? roots[root] : NONE;
    }

    private void setRoot(int root, int address) {
        if (isRoot(root)) {
            collector.greyOld(roots[root]);
            roots[root] = address;
        }
    }

    private boolean takeForRoot(int root, int sizeClass, int kind, int pointers, int numbers) {
        int address = takeBlock(sizeClass, kind, pointers, numbers);
        if (address == NONE) {
            collector.beginCycle();
            return false;
        }
        setRoot(root, address);
        return true;
    }

    private boolean takeLeaf(int root, int i) {
        int leaf = takeBlock(LEAF_CLASS, LEAF, 0, LEAF_NUMBERS);
        if (leaf == NONE) {
            setRoot(root, NONE);
            collector.beginCycle();
            return false;
        }
        blocks.setPointer(rootOrNone(root) + 1 + i, leaf);
        return true;
    }

    private int takeBlock(int sizeClass, int kind, int pointers, int numbers) {
        int address = blocks.hold(sizeClass, kind, pointers, numbers);
        if (address == NONE) {
            misses++;
        } else {
            collector.markTaken(address);
        }
        return address;
    }

    /** NONE when the root has no such number. */
    private int numberAddress(int root, int i) {
        int address = rootOrNone(root);
        if (address == NONE || i < 0 || i >= blocks.numbersOf(address)) {
            return NONE;
        }
        if (blocks.kindOf(address) != SPINE) {
            return address + 1 + blocks.pointersOf(address) + i;
        }
        int leaf = blocks.pointerAt(address + 1 + i / LEAF_NUMBERS);
        return leaf == NONE ? NONE : leaf + i % LEAF_NUMBERS;
    }

    /** NONE when the root has no such pointer; the leaves of a spine are not the program's. */
    private int pointerAddress(int root, int i) {
        int address = rootOrNone(root);
        if (address == NONE || blocks.kindOf(address) != OBJECT) {
            return NONE;
        }
        return i >= 0 && i < blocks.pointersOf(address) ? address + 1 + i : NONE;
    }

    /** The pages, the blocks in them and what their words hold. */
    private static final class Blocks {
        // A pointer stands here as the address and 1, so that a word that was never set is NULL.
        private final int[] words = new int[MOST_WORDS];
        private final byte[] kinds = new byte[MOST_SLOTS];
        private final byte[] marks = new byte[MOST_SLOTS];
        private final int[] pointers = new int[MOST_SLOTS];
        private final int[] numbers = new int[MOST_SLOTS];
        private final int[] classes = new int[MOST_PAGES];
        private final int[] held = new int[MOST_PAGES];
        private int pages;
        private int freePages;
        private int heldInAll;
        private int freedInAll;

        void clearAll(int newPages) {
            Arrays.fill(words, 0);
            Arrays.fill(kinds, (byte) VACANT);
            Arrays.fill(marks, (byte) 0);
            Arrays.fill(classes, NONE);
            Arrays.fill(held, 0);
            pages = Math.min(newPages, MOST_PAGES);
            freePages = pages;
            heldInAll = 0;
            freedInAll = 0;
        }

        boolean isInside(int address) {
            return address >= 0 && address < pages * PAGE_WORDS;
        }

        private boolean isPage(int page) {
            return page >= 0 && page < pages;
        }

        int wordAt(int address) {
            return isInside(address) ? words[address] : 0;
        }

        void setWord(int address, int value) {
            if (isInside(address)) {
                words[address] = value;
            }
        }

        int pointerAt(int address) {
            return wordAt(address) - 1;
        }

        void setPointer(int address, int target) {
            setWord(address, target + 1);
        }

        int kindOf(int address) {
            return isInside(address) ? kinds[address / SLOT_WORDS] : VACANT;
        }

        int pointersOf(int address) {
            return isInside(address) ? pointers[address / SLOT_WORDS] : 0;
        }

        int numbersOf(int address) {
            return isInside(address) ? numbers[address / SLOT_WORDS] : 0;
        }

        boolean isMarked(int address) {
            return isInside(address) && marks[address / SLOT_WORDS] != 0;
        }

        void setMark(int address, boolean marked) {
            if (isInside(address)) {
                marks[address / SLOT_WORDS] = (byte) (marked ? 1 : 0);
            }
        }

        int classOf(int page) {
            return isPage(page) ? classes[page] : NONE;
        }

        int heldIn(int page) {
            return isPage(page) ? held[page] : NONE;
        }

        int markedIn(int page) {
            if (!isPage(page)) {
                return NONE;
            }
            int marked = 0;
            for (int slot = page * PAGE_SLOTS; slot < (page + 1) * PAGE_SLOTS; slot++) {
                marked += marks[slot];
            }
            return marked;
        }

        /** The address of the block that holds the new thing; NONE when none is to be had. */
        int hold(int sizeClass, int kind, int newPointers, int newNumbers) {
            int address = firstVacant(pageWithRoom(sizeClass));
            if (!isInside(address)) {
                return NONE;
            }
            int slot = address / SLOT_WORDS;
            kinds[slot] = (byte) kind;
            pointers[slot] = newPointers;
            numbers[slot] = newNumbers;
            held[address / PAGE_WORDS]++;
            heldInAll++;
            return address;
        }

        private int pageWithRoom(int sizeClass) {
            if (!isClass(sizeClass)) {
                return NONE;
            }
            int room = PAGE_WORDS / blockWords(sizeClass);
            for (int page = 0; page < pages; page++) {
                if (classes[page] == sizeClass && held[page] < room) {
                    return page;
                }
            }
            return openPage(sizeClass);
        }

        private int openPage(int sizeClass) {
            for (int page = 0; page < pages; page++) {
                if (classes[page] == NONE) {
                    classes[page] = sizeClass;
                    freePages--;
                    return page;
                }
            }
            return NONE;
        }

        private int firstVacant(int page) {
            if (!isPage(page)) {
                return NONE;
            }
            int size = blockWords(classes[page]);
            for (int address = page * PAGE_WORDS; address < (page + 1) * PAGE_WORDS; address += size) {
                if (kindOf(address) == VACANT) {
                    return address;
                }
            }
            return NONE;
        }

        /** The first block at the place or behind it; NONE when there is none. */
        int blockFrom(int place) {
            if (place < 0) {
                return NONE;
            }
            for (int page = place / PAGE_WORDS; page < pages; page++) {
                if (classes[page] != NONE) {
                    return Math.max(place, page * PAGE_WORDS);
                }
            }
            return NONE;
        }

        int wordsOfBlock(int address) {
            return blockWords(classOf(address / PAGE_WORDS));
        }

        /** New blocks are empty because free ones are. */
        void release(int address, int size) {
            if (!isInside(address) || kindOf(address) == VACANT) {
                return;
            }
            for (int i = 0; i < size; i++) {
                setWord(address + i, 0);
            }
            kinds[address / SLOT_WORDS] = VACANT;
            held[address / PAGE_WORDS]--;
            heldInAll--;
            freedInAll++;
        }

        void closeIfEmpty(int page) {
            if (isPage(page) && classes[page] != NONE && held[page] == 0) {
                classes[page] = NONE;
                freePages++;
            }
        }
    }

    /** Addresses, the latest on top. */
    private static final class Pile {
        private final int[] items = new int[MOST_SLOTS];
        private int size;

        void clearAll() {
            size = 0;
        }

        void push(int address) {
            if (size >= 0 && size < items.length) {
                items[size] = address;
                size++;
            }
        }

        /** NONE when it is empty. */
        int pop() {
            if (size <= 0 || size > items.length) {
                return NONE;
            }
            size--;
            return items[size];
        }
    }

    /** The ticks so far, and whose the latest ones were. */
    private static final class Clock {
        // 1 for a tick of the program: then a sum over ticks counts them.
        private final byte[] latest = new byte[LATEST_TICKS];
        private int next;
        private int kept;
        private int programs;
        private int collectors;

        void clearAll() {
            next = 0;
            kept = 0;
            programs = 0;
            collectors = 0;
        }

        void programTicks(int ticks) {
            for (int n = 0; n < ticks; n++) {
                keep(1);
            }
            programs += ticks;
        }

        void collectorTick() {
            keep(0);
            collectors++;
        }

        private void keep(int whose) {
            if (next < 0 || next >= LATEST_TICKS) {
                next = 0;
            }
            latest[next] = (byte) whose;
            next++;
            if (kept < LATEST_TICKS) {
                kept++;
            }
        }

        /** Of the ticks that are kept, the oldest is 0. */
        private int keptAt(int i) {
            return latest[Math.floorMod(next - kept + i, LATEST_TICKS)];
        }

        int fewestPrograms(int window) {
            // No more ticks are kept than a window may have.
            if (!within(window, 1, kept)) {
                return NONE;
            }
            int sum = 0;
            for (int i = 0; i < window; i++) {
                sum += keptAt(i);
            }
            int fewest = sum;
            for (int i = window; i < kept; i++) {
                sum += keptAt(i) - keptAt(i - window);
                fewest = Math.min(fewest, sum);
            }
            return fewest;
        }
    }

    /** Finds and frees dead blocks, step by step, as the program's ticks go by. */
    private static final class Collector {
        private final Blocks blocks = new Blocks();
        private final Clock clock = new Clock();
        private final Pile pile = new Pile();
        private final int[] roots = new int[ROOT_COUNT];
        private int programQuantum;
        private int ownQuantum;
        private int trigger;
        private int part;
        private int credit;
        private int nextRoot;
        private int hand;
        private int looked;
        private int place;
        private int cyclesOver;

        void clearAll(int program, int own, int newTrigger) {
            programQuantum = program;
            ownQuantum = own;
            trigger = newTrigger;
            cyclesOver = 0;
            pile.clearAll();
            rest();
        }

        private void rest() {
            part = REST;
            credit = 0;
            nextRoot = 0;
            hand = NONE;
            looked = 0;
            place = 0;
        }

        int countOf(int what) {
            switch (what) {
                case 3:
                    return part;
                case 4:
                    return cyclesOver;
                case 5:
                    return credit;
                case 8:
                    return pile.size;
                case 11:
                    return hand;
                case 12:
                    return part == SWEEP ? blocks.blockFrom(place) : NONE;
                default:
                    return NONE;
            }
        }

        /** False when a cycle goes on. */
        boolean beginCycle() {
            if (part != REST) {
                return false;
            }
            part = ROOTS;
            credit = programQuantum;
            return true;
        }

        /** The ticks of one doing of the program, and what follows from them. */
        void spend(int ticks) {
            clock.programTicks(ticks);
            if (part != REST) {
                credit -= ticks;
            }
            for (int round = 0; round < MOST_ROUNDS && part != REST && credit <= 0; round++) {
                credit += programQuantum;
                for (int n = 0; n < ownQuantum && part != REST; n++) {
                    step();
                }
            }
            if (part == REST && blocks.freePages <= trigger) {
                beginCycle();
            }
        }

        private void step() {
            clock.collectorTick();
            switch (part) {
                case ROOTS:
                    rootsStep();
                    break;
                case MARK:
                    markStep();
                    break;
                case SWEEP:
                    sweepStep();
                    break;
                default:
                    break;
            }
        }

        private void rootsStep() {
            if (nextRoot >= 0 && nextRoot < ROOT_COUNT) {
                grey(roots[nextRoot]);
                nextRoot++;
            }
            if (nextRoot >= ROOT_COUNT) {
                part = MARK;
            }
        }

        private void markStep() {
            if (hand != NONE && looked < blocks.pointersOf(hand)) {
                looked++;
                grey(blocks.pointerAt(hand + looked));
                return;
            }
            hand = pile.pop();
            looked = 0;
            if (hand == NONE) {
                part = SWEEP;
                endIfSwept();
            }
        }

        /** A leaf has nothing to look into, so it never comes on the pile. */
        private void grey(int address) {
            if (address == NONE || blocks.isMarked(address)) {
                return;
            }
            blocks.setMark(address, true);
            if (blocks.kindOf(address) != LEAF) {
                pile.push(address);
            }
        }

        private void sweepStep() {
            int block = blocks.blockFrom(place);
            if (block != NONE) {
                int size = blocks.wordsOfBlock(block);
                place = block + size;
                if (blocks.isMarked(block)) {
                    blocks.setMark(block, false);
                } else {
                    blocks.release(block, size);
                }
                if (place % PAGE_WORDS == 0) {
                    blocks.closeIfEmpty(block / PAGE_WORDS);
                }
            }
            endIfSwept();
        }

        private void endIfSwept() {
            if (blocks.blockFrom(place) == NONE) {
                cyclesOver++;
                rest();
            }
        }

        /** Before a root or a pointer gets another value: what it was of must not be lost. */
        void greyOld(int address) {
            if (part == ROOTS || part == MARK) {
                grey(address);
            }
        }

        /** A block that is taken in a cycle must outlive it. */
        void markTaken(int address) {
            boolean sweepComes = part == SWEEP && address >= place;
            if (part == ROOTS || part == MARK || sweepComes) {
                blocks.setMark(address, true);
            }
        }
    }

    /** Goes through all that can be come to from the roots. */
    private static final class Walk {
        private final byte[] seen = new byte[MOST_SLOTS];
        private final Pile ahead = new Pile();
        private int found;
        private boolean sound;

        void goFrom(int[] roots, Blocks blocks) {
            Arrays.fill(seen, (byte) 0);
            ahead.clearAll();
            found = 0;
            sound = true;
            for (int root : roots) {
                comeTo(root, false, blocks);
            }
            for (int n = 0; n < MOST_SLOTS && ahead.size > 0; n++) {
                comeToPartsOf(ahead.pop(), blocks);
            }
        }

        private void comeToPartsOf(int address, Blocks blocks) {
            boolean leaves = blocks.kindOf(address) == SPINE;
            int parts = blocks.pointersOf(address);
            for (int i = 0; i < parts; i++) {
                comeTo(blocks.pointerAt(address + 1 + i), leaves, blocks);
            }
        }

        private void comeTo(int address, boolean leaf, Blocks blocks) {
            if (address == NONE) {
                return;
            }
            int kind = blocks.kindOf(address);
            if (kind == VACANT || leaf != (kind == LEAF)) {
                sound = false;
                return;
            }
            int slot = address / SLOT_WORDS;
            if (slot < 0 || slot >= MOST_SLOTS || seen[slot] != 0) {
                return;
            }
            seen[slot] = 1;
            found++;
            if (!leaf) {
                ahead.push(address);
            }
        }
    }
}
