import java.io.IOException;
import java.lang.reflect.Method;
import java.lang.reflect.Modifier;
import java.nio.file.Files;
import java.nio.file.Path;
import java.util.List;
import java.util.stream.Stream;

/** README.md tells what is so: its example is done line by line, and no call or test is left out. */
public final class ReadmeTest {
    private static int lineAt = 0;
    private static List<String> example;

    public static void main(String[] args) throws IOException {
        String text = Files.readString(Path.of("README.md"));
        int from = text.indexOf("```java\n");
        int to = text.indexOf("\n```\n", from);
        if (from < 0 || to < 0) {
            Check.due("README.md has an example", false, true);
            Check.end();
            return;
        }
        example = text.substring(from + "```java\n".length(), to).lines().toList();
        lineByLine();
        everyCall(text.substring(to));
        everyTest(text);
        Check.end();
    }

    private static void lineByLine() {
        says("BeatHeap heap = new BeatHeap()", "as behind begin(16, 20, 10, 4)");
        BeatHeap heap = new BeatHeap();
        answers("begin(8, 5, 3, 1)", heap.begin(8, 5, 3, 1));
        answers("make(0, 2, 1)", heap.make(0, 2, 1));
        answers("put(0, 0, 77)", heap.put(0, 0, 77));
        answers("array(1, 100)", heap.array(1, 100));
        answers("link(0, 0, 1)", heap.link(0, 0, 1));
        answers("drop(1)", heap.drop(1));
        answers("reachable()", heap.reachable());
        answers("start()", heap.start());
        answers("idle(200)", heap.idle(200));
        answers("count(4)", heap.count(4));
        answers("count(9)", heap.count(9));
        answers("share(8)", heap.share(8));
        answers("link(0, 0, BeatHeap.NONE)", heap.link(0, 0, BeatHeap.NONE));
        answers("start()", heap.start());
        answers("idle(200)", heap.idle(200));
        answers("count(9)", heap.count(9));
        answers("get(0, 0)", heap.get(0, 0));
        answers("whole()", heap.whole());
        Check.due("lines of the example", example.size(), lineAt);
    }

    private static void answers(String call, Object answer) {
        says("heap." + call, String.valueOf(answer));
    }

    /** The next line of the example is this, and what it says of it begins so. */
    private static void says(String code, String answer) {
        String line = lineAt < example.size() ? example.get(lineAt) : "";
        lineAt++;
        boolean same = line.matches("\\Q" + code + ";\\E +// \\Q" + answer + "\\E(:.*)?");
        Check.due("line " + lineAt + " of the example: " + code + " is " + answer + ", and not " + line, same, true);
    }

    private static void everyCall(String text) {
        for (Method m : BeatHeap.class.getDeclaredMethods()) {
            if (Modifier.isPublic(m.getModifiers())) {
                Check.due("README.md tells " + m.getName(), text.contains("`" + m.getName() + "("), true);
            }
        }
    }

    private static void everyTest(String text) throws IOException {
        try (Stream<Path> files = Files.list(Path.of("src/test/java"))) {
            for (Path file : files.toList()) {
                String name = file.getFileName().toString().replace(".java", "");
                if (name.endsWith("Test")) {
                    Check.due("README.md names " + name, text.contains("| `" + name + "` |"), true);
                }
            }
        }
    }
}
