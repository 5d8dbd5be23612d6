import java.lang.reflect.Constructor;
import java.lang.reflect.Field;
import java.lang.reflect.Method;
import java.lang.reflect.Modifier;
import java.util.Set;
import java.util.TreeSet;

/** The class shows what the document's public face lists, and nothing else. */
public final class FaceTest {
    private static boolean isHidden(int modifiers) {
        return Modifier.isPrivate(modifiers);
    }

    private static void constants() throws IllegalAccessException {
        Set<String> found = new TreeSet<>();
        for (Field f : MatchingStructure.class.getDeclaredFields()) {
            if (!isHidden(f.getModifiers())) {
                found.add(Modifier.toString(f.getModifiers()) + " " + f.getType() + " "
                    + f.getName() + " = " + f.get(null));
            }
        }
        Check.due("constants", found, new TreeSet<>(Set.of(
            "public static final int BAD_VERTEX = -1",
            "public static final int NONE = -2",
            "public static final int OFF = 0",
            "public static final int FREE = 1",
            "public static final int BORDER = 2",
            "public static final int CORE = 3")));
    }

    private static void methods() {
        Set<String> found = new TreeSet<>();
        Set<String> open = new TreeSet<>();
        Set<String> hidden = new TreeSet<>();
        for (Method m : MatchingStructure.class.getDeclaredMethods()) {
            if (isHidden(m.getModifiers())) {
                hidden.add(m.getName());
            } else {
                found.add(m.toString().replace("MatchingStructure.", ""));
                open.add(m.getName());
            }
        }
        Check.due("methods", found, new TreeSet<>(Set.of(
            "public int edge(int,int,boolean)",
            "public int turn(int,boolean)",
            "public int circle(int,int)",
            "public void clear()",
            "public int size()",
            "public int missed()",
            "public int part(int)",
            "public int members(int)",
            "public int groups()",
            "public int partner(int)",
            "public boolean inSome(int,int)",
            "public boolean inAll(int,int)",
            "public boolean helps(int,int)",
            "public int needed()")));
        hidden.retainAll(open);
        Check.due("private methods with a public one's name", hidden, new TreeSet<String>());
    }

    private static void classItself() {
        Class<?> c = MatchingStructure.class;
        Check.due("class", Modifier.toString(c.getModifiers()), "public final");
        Check.due("nested classes", c.getDeclaredClasses().length, 0);
        Constructor<?>[] made = c.getDeclaredConstructors();
        Check.due("constructors", made.length, 1);
        Check.due("constructor", made[0].toString(), "public MatchingStructure()");
    }

    public static void main(String[] args) throws IllegalAccessException {
        constants();
        methods();
        classItself();
        Check.end();
    }
}
