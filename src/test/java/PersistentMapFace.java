import java.lang.reflect.Constructor;
import java.lang.reflect.Field;
import java.lang.reflect.Method;
import java.lang.reflect.Modifier;
import java.util.HashSet;
import java.util.Set;
import java.util.TreeSet;

/** The class shows the document's public face and nothing else, and its fields are of allowed types. */
public final class PersistentMapFace {
    private static final Set<String> FACE = Set.of(
            "put/3", "remove/2", "fill/4", "graft/3", "exchange/3", "versions/0", "parent/1", "ancestor/2", "meet/2",
            "family/1", "has/2", "get/2", "size/1", "next/2", "previous/2", "select/2", "sum/3", "differing/2",
            "spread/1", "changes/1");
    private static final Set<Class<?>> FIELD_TYPES = Set.of(
            int.class, long.class, short.class, byte.class, char.class, boolean.class,
            int[].class, long[].class, short[].class, byte[].class, char[].class, boolean[].class);

    private static int wrong = 0;

    private static void due(boolean holds, String what) {
        if (!holds) {
            wrong++;
            System.out.println("does not hold: " + what);
        }
    }

    public static void main(String[] args) {
        theClass();
        theMethods();
        theFields();
        System.out.println(wrong == 0 ? "the face is as due" : wrong + " things are not as due");
        if (wrong != 0) {
            System.exit(1);
        }
    }

    private static void theClass() {
        Class<?> c = PersistentMap.class;
        due(c.getModifiers() == (Modifier.PUBLIC | Modifier.FINAL), "the class is public and final");
        due(c.getSuperclass() == Object.class && c.getInterfaces().length == 0, "the class stands alone");
        due(c.getDeclaredClasses().length == 0, "the class has no nested class");
        Constructor<?>[] all = c.getDeclaredConstructors();
        due(all.length == 1 && all[0].getParameterCount() == 0 && Modifier.isPublic(all[0].getModifiers()),
                "there is one constructor, public and without parameters");
    }

    private static void theMethods() {
        Set<String> shown = new TreeSet<>();
        Set<String> shownNames = new HashSet<>();
        for (Method m : PersistentMap.class.getDeclaredMethods()) {
            due(m.getParameterCount() <= 7, m + " has at most seven parameters");
            if (!Modifier.isPrivate(m.getModifiers())) {
                shown.add(m.getName() + "/" + m.getParameterCount());
                shownNames.add(m.getName());
                due(m.getModifiers() == Modifier.PUBLIC, m + " is public, and nothing more");
                due(m.getReturnType() == int.class, m + " answers an int");
                for (Class<?> type : m.getParameterTypes()) {
                    due(type == int.class, m + " takes ints");
                }
            }
        }
        due(shown.equals(FACE), "the public methods " + shown + " are those of the document");
        for (Method m : PersistentMap.class.getDeclaredMethods()) {
            due(!Modifier.isPrivate(m.getModifiers()) || !shownNames.contains(m.getName()),
                    m + " does not bear the name of a public method");
        }
    }

    private static void theFields() {
        for (Field f : PersistentMap.class.getDeclaredFields()) {
            int modifiers = f.getModifiers();
            due(Modifier.isPrivate(modifiers), f + " is private");
            due(FIELD_TYPES.contains(f.getType()), f + " is of an allowed type");
            boolean number = f.getType() == int.class || f.getType() == long.class;
            due(!Modifier.isStatic(modifiers) || (Modifier.isFinal(modifiers) && number),
                    f + " is a constant if it is static");
        }
    }
}
