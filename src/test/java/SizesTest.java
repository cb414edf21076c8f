import java.io.IOException;
import java.lang.reflect.Field;
import java.lang.reflect.Method;
import java.lang.reflect.Modifier;
import java.nio.file.Files;
import java.nio.file.Path;
import java.util.ArrayList;
import java.util.HashMap;
import java.util.List;
import java.util.Map;
import java.util.TreeMap;
import java.util.regex.Matcher;
import java.util.regex.Pattern;

/** LANGUAGE.md, rules 5, 8 and 11: static fields, parameters, fields, and how deep calls go. */
public final class SizesTest {
    private static final int MOST_PARAMETERS = 7;
    private static final int MOST_FIELDS = 20;
    private static final int MOST_DEEP = 8;
    private static final Pattern CLASS = Pattern.compile("^ *(?:public |private static )final class (\\w+) \\{$");
    private static final Pattern HEAD = Pattern.compile("^( {4}| {8})(?!if|for|while|switch|\\})\\S.*?(\\w+)\\([^()]*\\) \\{$");
    private static final Pattern CALL = Pattern.compile("(?:(\\w+)\\.)?(\\w+)\\(");

    /** The lines of each method, under its class and name. */
    private static final Map<String, List<String>> bodies = new TreeMap<>();
    /** What class a field or a parameter is of, by its name. */
    private static final Map<String, String> classOf = new HashMap<>();

    public static void main(String[] args) throws IOException {
        shapes(BeatHeap.class);
        for (Class<?> inside : BeatHeap.class.getDeclaredClasses()) {
            shapes(inside);
        }
        String text = Files.readString(Path.of("src/main/java/BeatHeap.java"));
        readMethods(text.replaceAll("(?s)/\\*.*?\\*/", "").replaceAll("//[^\n]*", ""));
        int methods = methodsOf(BeatHeap.class) + 1;
        for (Class<?> inside : BeatHeap.class.getDeclaredClasses()) {
            methods += methodsOf(inside);
        }
        Check.due("the methods that were read, and the constructor", bodies.size(), methods);
        for (String name : bodies.keySet()) {
            int deep = deepFrom(name, 0);
            Check.due("calls from " + name + " go " + deep + " deep: too deep", deep > MOST_DEEP, false);
        }
        Check.end();
    }

    private static int methodsOf(Class<?> holder) {
        return holder.getDeclaredMethods().length;
    }

    private static void shapes(Class<?> holder) {
        int fields = 0;
        for (Field f : holder.getDeclaredFields()) {
            if (!Modifier.isStatic(f.getModifiers())) {
                fields++;
            } else {
                Check.due("the static field " + f.getName() + " is final", Modifier.isFinal(f.getModifiers()), true);
            }
        }
        Check.due(holder.getName() + " has " + fields + " fields: too many", fields > MOST_FIELDS, false);
        for (Method m : holder.getDeclaredMethods()) {
            Check.due(m.getName() + "() has too many parameters", m.getParameterCount() > MOST_PARAMETERS, false);
        }
    }

    private static void readMethods(String text) {
        for (Class<?> inside : BeatHeap.class.getDeclaredClasses()) {
            String name = inside.getSimpleName();
            Matcher declared = Pattern.compile("\\b" + name + " (\\w+)\\b").matcher(text);
            while (declared.find()) {
                classOf.put(declared.group(1), name);
            }
        }
        String holder = "";
        String end = "";
        List<String> body = null;
        for (String line : text.split("\n")) {
            Matcher opens = CLASS.matcher(line);
            Matcher head = HEAD.matcher(line);
            if (opens.find()) {
                holder = opens.group(1);
            } else if (body == null && head.find()) {
                body = new ArrayList<>();
                end = head.group(1) + "}";
                bodies.put(holder + "." + head.group(2), body);
            } else if (line.equals(end)) {
                body = null;
            } else if (body != null) {
                body.add(line);
            }
        }
    }

    /** A method that calls itself, by others too, comes out as too deep. */
    private static int deepFrom(String name, int above) {
        if (above > MOST_DEEP) {
            return 1;
        }
        String holder = name.substring(0, name.indexOf('.'));
        int deepest = 0;
        for (String line : bodies.get(name)) {
            Matcher call = CALL.matcher(line);
            while (call.find()) {
                String called = fullName(holder, call.group(1), call.group(2));
                if (bodies.containsKey(called)) {
                    deepest = Math.max(deepest, deepFrom(called, above + 1));
                }
            }
        }
        return deepest + 1;
    }

    private static String fullName(String holder, String receiver, String method) {
        if (receiver != null) {
            return classOf.getOrDefault(receiver, receiver) + "." + method;
        }
        String own = holder + "." + method;
        return bodies.containsKey(own) ? own : "BeatHeap." + method;
    }
}
