import java.lang.reflect.Constructor;
import java.lang.reflect.Field;
import java.lang.reflect.Method;
import java.lang.reflect.Modifier;
import java.util.Set;
import java.util.TreeSet;

/** The public face is the document's, and no member beside it can be seen from outside. */
public final class FaceTest {
    public static void main(String[] args) {
        Set<String> want = new TreeSet<>(Set.of(
                "boolean begin(int,int,int,int)", "int make(int,int,int)", "int array(int,int)",
                "boolean put(int,int,int)", "int get(int,int)", "boolean link(int,int,int)",
                "boolean follow(int,int,int)", "boolean move(int,int)", "boolean drop(int)"));
        want.addAll(Set.of("boolean idle(int)", "boolean start()", "int root(int,int)", "int word(int)",
                "int page(int,int)", "int count(int)", "int share(int)", "int reachable()", "boolean whole()",
                "int NONE"));
        want.add("new()");
        Set<String> got = new TreeSet<>();
        Set<String> hidden = new TreeSet<>();
        Set<String> faceNames = new TreeSet<>();
        for (Method m : BeatHeap.class.getDeclaredMethods()) {
            if (Modifier.isPrivate(m.getModifiers())) {
                hidden.add(m.getName());
            } else {
                got.add(m.getReturnType() + " " + m.getName() + types(m.getParameterTypes()));
                faceNames.add(m.getName());
            }
        }
        for (Field f : BeatHeap.class.getDeclaredFields()) {
            if (!Modifier.isPrivate(f.getModifiers())) {
                got.add(f.getType() + " " + f.getName());
            }
        }
        for (Constructor<?> c : BeatHeap.class.getDeclaredConstructors()) {
            if (!Modifier.isPrivate(c.getModifiers())) {
                got.add("new" + types(c.getParameterTypes()));
            }
        }
        if (!got.equals(want)) {
            System.out.println("the face is " + got + ", due is " + want);
            Check.due("the face as the document's", false, true);
        }
        hidden.retainAll(faceNames);
        Check.due("private methods with a public one's name " + hidden, hidden.size(), 0);
        Check.due("final class", Modifier.isFinal(BeatHeap.class.getModifiers()), true);
        Check.due("NONE", BeatHeap.NONE, -1);
        Check.end();
    }

    private static String types(Class<?>[] types) {
        StringBuilder text = new StringBuilder("(");
        for (Class<?> type : types) {
            text.append(text.length() > 1 ? "," : "").append(type);
        }
        return text.append(")").toString();
    }
}
