import java.lang.reflect.Constructor;
import java.lang.reflect.Field;
import java.lang.reflect.Method;
import java.lang.reflect.Modifier;
import java.util.Set;
import java.util.TreeSet;

/** The public face is the document's, member by member, and all else is private. */
public final class FaceTest {
    private static int wrong = 0;

    public static void main(String[] args) throws IllegalAccessException {
        due("the class's modifiers", Modifier.toString(JoinTrees.class.getModifiers()), "public final");
        due("the nested classes", JoinTrees.class.getDeclaredClasses().length, 0);
        due("the constants", constants(), new TreeSet<>(Set.of(
            "BAD = -1", "FULL = -2", "NONE = -3", "UNITE = 0", "MEET = 1", "LESS = 2", "EITHER = 3")));
        due("the constructors", constructors(), new TreeSet<>(Set.of("public JoinTrees()")));
        due("the methods", methods(), new TreeSet<>(Set.of(
            "public int JoinTrees.add(int,int)",
            "public int JoinTrees.remove(int,int)",
            "public boolean JoinTrees.has(int,int)",
            "public int JoinTrees.size(int)",
            "public int JoinTrees.at(int,int)",
            "public int JoinTrees.rank(int,int)",
            "public int JoinTrees.combine(int,int,int,int)",
            "public int JoinTrees.split(int,int,int)",
            "public int JoinTrees.removeRange(int,int,int)",
            "public boolean JoinTrees.same(int,int)",
            "public boolean JoinTrees.within(int,int)",
            "public int JoinTrees.ceiling(int,int)",
            "public int JoinTrees.clear(int)")));
        System.out.println(wrong == 0 ? "the face is as due" : wrong + " parts of the face are not as due");
        if (wrong != 0) {
            System.exit(1);
        }
    }

    private static Set<String> constants() throws IllegalAccessException {
        Set<String> found = new TreeSet<>();
        for (Field field : JoinTrees.class.getDeclaredFields()) {
            if (Modifier.isPrivate(field.getModifiers())) {
                continue;
            }
            String before = "public static final int JoinTrees." + field.getName();
            boolean constant = field.toString().equals(before);
            found.add(constant ? field.getName() + " = " + field.getInt(null) : field.toString());
        }
        return found;
    }

    private static Set<String> constructors() {
        Set<String> found = new TreeSet<>();
        for (Constructor<?> constructor : JoinTrees.class.getDeclaredConstructors()) {
            found.add(constructor.toString());
        }
        return found;
    }

    private static Set<String> methods() {
        Set<String> found = new TreeSet<>();
        for (Method method : JoinTrees.class.getDeclaredMethods()) {
            if (!Modifier.isPrivate(method.getModifiers())) {
                found.add(method.toString());
            }
        }
        return found;
    }

    private static void due(String part, Object got, Object want) {
        if (!got.equals(want)) {
            wrong++;
            System.out.println(part + ": " + got + ", due is " + want);
        }
    }
}
