import java.lang.reflect.Field;

/**
 * Sentences whose case no run of calls comes to, because the other promises keep it away: the state is
 * set from within. It knows the class's private fields by name, so it goes along when they change.
 */
public final class InnerEdgesTest {
    private static final byte VACANT = 0;
    private static final byte OBJECT = 1;
    private static final byte SPINE = 2;
    private static final byte LEAF = 3;

    public static void main(String[] args) throws ReflectiveOperationException {
        makeFailsAtRest();
        arrayFailsAtRestForItsSpine();
        arrayFailsAtRestForALeaf();
        notWhole();
        Check.end();
    }

    private static Field field(Object owner, String name) throws ReflectiveOperationException {
        Field field = owner.getClass().getDeclaredField(name);
        field.setAccessible(true);
        return field;
    }

    private static Object inner(Object owner, String name) throws ReflectiveOperationException {
        return field(owner, name).get(owner);
    }

    /** No document's trigger is below 0: with it, no cycle begins by itself, even when no page is FREE. */
    private static BeatHeap withoutTrigger() throws ReflectiveOperationException {
        BeatHeap x = Check.heap(4, 50, 1, 0);
        Object collector = inner(x, "collector");
        field(collector, "trigger").setInt(collector, -1);
        return x;
    }

    private static void makeFailsAtRest() throws ReflectiveOperationException {
        Check.sentence("0 when no block is to be had (the root stays as it is, and it takes nothing, but a cycle begins, "
                + "if the collector is at rest)");
        BeatHeap x = withoutTrigger();
        for (int root = 0; root < 8; root++) {
            x.make(root, 0, 31);
        }
        Check.counts("full and at rest", x, 0, 72, 3, 0, 6, 0);
        Check.due("make(3, 0, 0) is refused", x.make(3, 0, 0), -1);
        Check.counts("refused: no cycle begins", x, 3, 0);
        Check.due("make(3, 0, 1)", x.make(3, 0, 1), 0);
        Check.counts("a cycle begins", x, 0, 72, 3, 1, 4, 0, 5, 50, 8, 0, 10, 1);
        Check.due("the root stays", x.root(3, 0), 96);
    }

    private static void arrayFailsAtRestForItsSpine() throws ReflectiveOperationException {
        Check.sentence("as make() for the spine");
        BeatHeap x = withoutTrigger();
        for (int root = 0; root < 8; root++) {
            x.make(root, 0, 31);
        }
        Check.due("array(3, 31) is refused", x.array(3, 31), -1);
        Check.counts("refused: no cycle begins", x, 3, 0);
        Check.due("array(3, 32)", x.array(3, 32), 0);
        Check.counts("a cycle begins", x, 0, 72, 3, 1, 4, 0, 5, 50, 8, 0, 10, 1);
        Check.due("the root stays", x.root(3, 0), 96);
    }

    private static void arrayFailsAtRestForALeaf() throws ReflectiveOperationException {
        Check.sentence("else the root is NULL then, and a cycle begins, if the collector is at rest");
        BeatHeap x = withoutTrigger();
        for (int root = 0; root < 5; root++) {
            x.make(root, 0, 31);
        }
        // The spine's page is the last one, and one leaf has room.
        Check.due("array(3, 64)", x.array(3, 64), 0);
        Check.due("the root is NULL", x.root(3, 0), -1);
        Check.counts("a cycle begins behind that", x, 0, 56, 3, 1, 4, 0, 5, 50, 7, 7, 8, 0, 10, 1);
        Check.due("so nothing is greyed", x.page(3, 2), 0);
    }

    private static void notWhole() throws ReflectiveOperationException {
        Check.sentence("Whether all that can be come to from the roots is there (in a block that holds something of that kind).");
        BeatHeap x = Check.heap(4, 50, 1, 0);
        x.make(0, 1, 0);
        x.array(1, 32);
        x.link(0, 0, 1);
        x.drop(1);
        byte[] kinds = (byte[]) inner(inner(x, "blocks"), "kinds");
        // The object at 0, the spine at 4 and the leaf at 64: a slot for each 4 words.
        byte[][] notDue = {{0, VACANT}, {0, LEAF}, {1, VACANT}, {1, LEAF}, {16, VACANT}, {16, OBJECT}, {16, SPINE}};
        for (byte[] slot : notDue) {
            Check.due("before: whole()", x.whole(), true);
            byte kept = kinds[slot[0]];
            kinds[slot[0]] = slot[1];
            Check.due("kind " + slot[1] + " at " + 4 * slot[0] + ": whole()", x.whole(), false);
            kinds[slot[0]] = kept;
        }
        x.drop(0);
        kinds[0] = VACANT;
        Check.due("it cannot be come to: whole()", x.whole(), true);
        Check.due("reachable()", x.reachable(), 0);
    }
}
