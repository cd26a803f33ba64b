import java.lang.reflect.Constructor;
import java.lang.reflect.Field;
import java.lang.reflect.Method;
import java.lang.reflect.Modifier;
import java.util.HashSet;
import java.util.Set;
import java.util.TreeSet;

/** The class has the public face of the document, and no other member that can be seen from outside. */
public final class FaceTest {
    private static final String[] FACE = {
        "vertices 0", "link 2", "cut 1", "edges 0", "reachable 1", "reachableCount 0",
        "immediate 1", "dominates 2", "common 1", "nearest 2", "below 1", "children 1",
        "border 2", "needs 2", "bridges 0", "height 0"
    };

    public static void main(String[] args) {
        Class<?> face = DominatorCert.class;
        Due.holds("public final class", Modifier.isPublic(face.getModifiers()) && Modifier.isFinal(face.getModifiers()));
        Due.holds("no class inside", face.getDeclaredClasses().length == 0);
        constructors(face);
        methods(face);
        fields(face);
        Due.end();
    }

    private static void constructors(Class<?> face) {
        Constructor<?>[] all = face.getDeclaredConstructors();
        Due.answer("number of constructors", all.length, 1);
        Due.holds("public constructor", Modifier.isPublic(all[0].getModifiers()));
        Due.holds("constructor takes one int", onlyInts(all[0].getParameterTypes()) && all[0].getParameterCount() == 1);
    }

    private static void methods(Class<?> face) {
        Set<String> open = new TreeSet<>();
        Set<String> openNames = new HashSet<>();
        Set<String> hiddenNames = new HashSet<>();
        for (Method m : face.getDeclaredMethods()) {
            if (Modifier.isPrivate(m.getModifiers())) {
                hiddenNames.add(m.getName());
                continue;
            }
            boolean plain = Modifier.isPublic(m.getModifiers()) && !Modifier.isStatic(m.getModifiers());
            Due.holds(m.getName() + " is public and of the object", plain);
            Due.holds(m.getName() + " takes and answers ints",
                m.getReturnType() == int.class && onlyInts(m.getParameterTypes()));
            open.add(m.getName() + " " + m.getParameterCount());
            openNames.add(m.getName());
        }
        Due.holds("the methods of the document and no other: " + open, open.equals(new TreeSet<>(Set.of(FACE))));
        hiddenNames.retainAll(openNames);
        Due.holds("private methods with the name of a public one: " + hiddenNames, hiddenNames.isEmpty());
    }

    private static void fields(Class<?> face) {
        for (Field f : face.getDeclaredFields()) {
            Due.holds(f.getName() + " is private", Modifier.isPrivate(f.getModifiers()));
            if (!Modifier.isStatic(f.getModifiers())) continue;
            boolean number = f.getType() == int.class || f.getType() == long.class;
            Due.holds(f.getName() + " is a constant number", number && Modifier.isFinal(f.getModifiers()));
        }
    }

    private static boolean onlyInts(Class<?>[] types) {
        for (Class<?> type : types) {
            if (type != int.class) return false;
        }
        return true;
    }
}
