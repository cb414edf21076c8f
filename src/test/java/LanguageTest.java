import java.io.IOException;
import java.nio.file.Files;
import java.nio.file.Path;
import java.util.List;
import java.util.regex.Matcher;
import java.util.regex.Pattern;

/** What LANGUAGE.md rules out and a look at the text can find. */
public final class LanguageTest {
    private static final String[] RULED_OUT = {
        "->", "::", "\\bcatch\\b", "\\bfinally\\b", "\\bsynchronized\\b", "\\bassert\\b", "\\bstatic\\s*\\{", "\\bpackage\\b",
        "\\bSystem\\.(?!arraycopy)", "\\bthrow\\b", "\\w+Exact\\b", "\\b(HashMap|HashSet|Random|Thread|Object)\\b",
        "\\bstatic (?!final|class|boolean \\w+\\(|int \\w+\\()"};
    private static final int MOST_LINES = 60;
    private static final int MOST_CLASSES = 12;

    public static void main(String[] args) throws IOException {
        Path source = Path.of("src/main/java/BeatHeap.java");
        String text = Files.readString(source).replaceAll("(?s)/\\*.*?\\*/", "").replaceAll("//[^\n]*", "");
        for (String pattern : RULED_OUT) {
            Matcher matcher = Pattern.compile(pattern).matcher(text);
            Check.due("the source has " + pattern, matcher.find(), false);
        }
        Matcher imports = Pattern.compile("import ([^;]+);").matcher(text);
        while (imports.find()) {
            Check.due("import " + imports.group(1), List.of("java.util.Arrays").contains(imports.group(1)), true);
        }
        long classes = Pattern.compile("\\bclass\\b").matcher(text).results().count();
        Check.due("no more classes than allowed", classes <= MOST_CLASSES, true);
        Check.due("the longest method is short", longestMethod(text.split("\n")) <= MOST_LINES, true);
        Check.end();
    }

    /** A method begins with a line that ends in ") {" where members stand, and ends with its brace. */
    private static int longestMethod(String[] lines) {
        int longest = 0;
        int first = -1;
        String indent = "";
        for (int i = 0; i < lines.length; i++) {
            Matcher head = Pattern.compile("^( {4}| {8})(?!if|for|while|switch|\\})\\S.*\\) \\{$").matcher(lines[i]);
            if (first < 0 && head.find()) {
                first = i;
                indent = head.group(1);
            } else if (first >= 0 && lines[i].equals(indent + "}")) {
                longest = Math.max(longest, i - first + 1);
                first = -1;
            }
        }
        return longest;
    }
}
