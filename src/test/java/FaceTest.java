import java.lang.reflect.Constructor;
import java.lang.reflect.Field;
import java.lang.reflect.Method;
import java.lang.reflect.Modifier;
import java.util.Set;
import java.util.TreeSet;

/** The public face is the document's, and no member beside it can be seen from outside. */
public final class FaceTest {
    public static void main(String[] args) {
        Set<String> want = new TreeSet<>(Set.of(
                "boolean begin(int,int,int,int)", "int make(int,int,int)", "int array(int,int)",
                "boolean put(int,int,int)", "int get(int,int)", "boolean link(int,int,int)",
                "boolean follow(int,int,int)", "boolean move(int,int)", "boolean drop(int)"));
        want.addAll(Set.of("boolean idle(int)", "boolean start()", "int root(int,int)", "int word(int)",
                "int page(int,int)", "int count(int)", "int share(int)", "int reachable()", "boolean whole()",
                "int NONE"));
        want.add("new()");
        Set<String> got = new TreeSet<>();
        Set<String> faceNames = new TreeSet<>();
        for (Method m : BeatHeap.class.getDeclaredMethods()) {
            if (!Modifier.isPrivate(m.getModifiers())) {
                got.add(m.getReturnType() + " " + m.getName() + types(m.getParameterTypes()));
                faceNames.add(m.getName());
                Check.due(m.getName() + "() is public, of the object", m.getModifiers(), Modifier.PUBLIC);
            }
        }
        for (Field f : BeatHeap.class.getDeclaredFields()) {
            if (!Modifier.isPrivate(f.getModifiers())) {
                got.add(f.getType() + " " + f.getName());
                Check.due(f.getName() + " is a public constant", f.getModifiers(),
                        Modifier.PUBLIC | Modifier.STATIC | Modifier.FINAL);
            }
        }
        for (Constructor<?> c : BeatHeap.class.getDeclaredConstructors()) {
            if (!Modifier.isPrivate(c.getModifiers())) {
                got.add("new" + types(c.getParameterTypes()));
                Check.due("the constructor is public", c.getModifiers(), Modifier.PUBLIC);
            }
        }
        if (!got.equals(want)) {
            System.out.println("the face is " + got + ", due is " + want);
            Check.due("the face as the document's", false, true);
        }
        hiddenNames(BeatHeap.class, faceNames);
        for (Class<?> inside : BeatHeap.class.getDeclaredClasses()) {
            hiddenNames(inside, faceNames);
            int seen = inside.getModifiers() & (Modifier.PUBLIC | Modifier.PROTECTED | Modifier.STATIC);
            Check.due(inside.getName() + " is static, and hidden", seen, Modifier.STATIC);
        }
        Check.due("public class", Modifier.isPublic(BeatHeap.class.getModifiers()), true);
        Check.due("final class", Modifier.isFinal(BeatHeap.class.getModifiers()), true);
        Check.due("NONE", BeatHeap.NONE, -1);
        Check.end();
    }

    private static void hiddenNames(Class<?> holder, Set<String> faceNames) {
        for (Method m : holder.getDeclaredMethods()) {
            boolean both = Modifier.isPrivate(m.getModifiers()) && faceNames.contains(m.getName());
            Check.due("the private " + m.getName() + "() has a public one's name", both, false);
        }
    }

    private static String types(Class<?>[] types) {
        StringBuilder text = new StringBuilder("(");
        for (Class<?> type : types) {
            text.append(text.length() > 1 ? "," : "").append(type);
        }
        return text.append(")").toString();
    }
}
