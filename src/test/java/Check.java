/** Counts and prints the answers that are not as due. */
final class Check {
    private static int wrong = 0;
    private static String sentence = "";

    private Check() {
    }

    /** The sentence of the document that the calls from here on are held against. */
    static void sentence(String text) {
        sentence = "[" + text + "] ";
    }

    static BeatHeap heap(int pages, int program, int collector, int trigger) {
        BeatHeap x = new BeatHeap();
        due("begin(" + pages + ", " + program + ", " + collector + ", " + trigger + ")",
                x.begin(pages, program, collector, trigger), true);
        return x;
    }

    static void due(String call, long got, long want) {
        if (got != want) {
            wrong++;
            System.out.println(sentence + call + " answered " + got + ", due is " + want);
        }
    }

    static void due(String call, boolean got, boolean want) {
        due(call, got ? 1 : 0, want ? 1 : 0);
    }

    /** Several count() at once: whats and wants by turns. */
    static void counts(String when, BeatHeap x, int... whatAndWant) {
        for (int i = 0; i + 1 < whatAndWant.length; i += 2) {
            due(when + ": count(" + whatAndWant[i] + ")", x.count(whatAndWant[i]), whatAndWant[i + 1]);
        }
    }

    static void end() {
        if (wrong != 0) {
            System.out.println(wrong + " answers are not as due");
            System.exit(1);
        }
    }
}
