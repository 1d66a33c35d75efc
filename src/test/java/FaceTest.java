import java.lang.reflect.Constructor;
import java.lang.reflect.Field;
import java.lang.reflect.Method;
import java.lang.reflect.Modifier;
import java.util.Arrays;
import java.util.Set;
import java.util.TreeSet;

/** The public face, and nothing visible beside it. */
final class FaceTest {
    private static final Set<String> METHODS = new TreeSet<>(Arrays.asList(
            "public int addRow[int, int, int]",
            "public int dropRow[int]",
            "public int learn[int, int]",
            "public int rule[int, int]",
            "public int atom[int, int, int]",
            "public int dropRules[]",
            "public boolean certain[int, int]",
            "public boolean possible[int, int]",
            "public int certainCount[]",
            "public boolean alwaysSome[]"));
    private static final Set<String> FIELDS = new TreeSet<>(Arrays.asList(
            "public static final int BAD",
            "public static final int FULL",
            "public static final int NONE"));

    public static void main(String[] args) {
        Due due = new Due();
        due.is("BAD", -1, NaiveNulls.BAD);
        due.is("FULL", -2, NaiveNulls.FULL);
        due.is("NONE", -3, NaiveNulls.NONE);
        due.is("modifiers of the class", Modifier.PUBLIC | Modifier.FINAL, NaiveNulls.class.getModifiers());
        due.is("nested classes", 0, NaiveNulls.class.getDeclaredClasses().length);
        constructors(due);
        methods(due);
        fields(due);
        due.end();
    }

    private static void constructors(Due due) {
        Constructor<?>[] all = NaiveNulls.class.getDeclaredConstructors();
        due.is("constructors", 1, all.length);
        due.is("parameters of the constructor", 0, all[0].getParameterCount());
        due.yes("the constructor is public", Modifier.isPublic(all[0].getModifiers()));
    }

    private static void methods(Due due) {
        Set<String> seen = new TreeSet<>();
        for (Method m : NaiveNulls.class.getDeclaredMethods()) {
            due.yes("seven parameters at most: " + m, m.getParameterCount() <= 7);
            if (!Modifier.isPrivate(m.getModifiers())) {
                String types = Arrays.stream(m.getParameterTypes()).map(Class::getName).toList().toString();
                seen.add(Modifier.toString(m.getModifiers()) + " " + m.getReturnType() + " " + m.getName() + types);
            }
        }
        due.yes("visible methods " + seen, seen.equals(METHODS));
    }

    private static void fields(Due due) {
        Set<String> seen = new TreeSet<>();
        for (Field f : NaiveNulls.class.getDeclaredFields()) {
            if (!Modifier.isPrivate(f.getModifiers())) {
                seen.add(Modifier.toString(f.getModifiers()) + " " + f.getType() + " " + f.getName());
            }
        }
        due.yes("visible fields " + seen, seen.equals(FIELDS));
    }
}
