import java.lang.reflect.Constructor;
import java.lang.reflect.Field;
import java.lang.reflect.Method;
import java.lang.reflect.Modifier;
import java.util.Arrays;
import java.util.HashSet;
import java.util.List;
import java.util.Set;
import java.util.TreeSet;

/** The public face of the document, and the rules of LANGUAGE.md that can be seen in the class file. */
public final class FaceTest {
    private static final Set<String> METHODS = new TreeSet<>(List.of(
        "boolean mode(int, boolean)",
        "long read(int, int)",
        "int write(int, int, int)",
        "long add(int, int, int)",
        "int acquire(int, int)",
        "boolean release(int, int)",
        "boolean rest(int, int)",
        "int wake(int, int, boolean)",
        "int arrive(int)",
        "int refresh(int)",
        "int tidy()",
        "int state(int)",
        "int holder(int)",
        "int waits(int, boolean, int)",
        "int ring(int)",
        "int has(int, int)",
        "int stale(int, int)",
        "int knows(int, int)",
        "int keeps(int, int)",
        "int count(int, int)",
        "int races(int)",
        "int total(int)"));

    private static final Set<Class<?>> TYPES = Set.of(
        int.class, long.class, short.class, byte.class, char.class, boolean.class,
        int[].class, long[].class, short[].class, byte[].class, char[].class, boolean[].class);

    public static void main(String[] args) {
        constants();
        methods();
        members();
        Due.end();
    }

    private static void constants() {
        Due.part("face constants");
        Due.is("REFUSED", ClusterHeap.REFUSED, -1);
        Due.is("FULL", ClusterHeap.FULL, -2);
        Due.is("NOTHING", ClusterHeap.NOTHING, -10000000000L);
        Set<String> open = new TreeSet<>();
        for (Field f : ClusterHeap.class.getDeclaredFields()) {
            if (!Modifier.isPrivate(f.getModifiers())) {
                open.add(Modifier.toString(f.getModifiers()) + " " + f.getType() + " " + f.getName());
            }
        }
        same("open fields", open, new TreeSet<>(List.of(
            "public static final int REFUSED",
            "public static final int FULL",
            "public static final long NOTHING")));
    }

    private static void methods() {
        Due.part("face methods");
        Set<String> open = new TreeSet<>();
        Set<String> openNames = new HashSet<>();
        for (Method m : ClusterHeap.class.getDeclaredMethods()) {
            if (!Modifier.isPrivate(m.getModifiers())) {
                Due.isTrue(m + " is public and of the object",
                    Modifier.toString(m.getModifiers()).equals("public"));
                open.add(signature(m));
                openNames.add(m.getName());
            }
        }
        same("open methods", open, METHODS);
        for (Method m : ClusterHeap.class.getDeclaredMethods()) {
            if (Modifier.isPrivate(m.getModifiers())) {
                Due.isFalse("rule 1: private " + m.getName() + " bears a public name",
                    openNames.contains(m.getName()));
            }
            Due.isTrue("rule 10: parameters of " + m.getName(), m.getParameterCount() <= 7);
            for (Class<?> type : m.getParameterTypes()) {
                Due.isTrue("rule 2: parameters of " + m.getName(), TYPES.contains(type));
            }
            Due.isFalse("rule 4: " + m.getName() + " answers an array", m.getReturnType().isArray());
        }
        Constructor<?>[] constructors = ClusterHeap.class.getDeclaredConstructors();
        Due.is("constructors", constructors.length, 1);
        Due.isTrue("constructor is public", Modifier.isPublic(constructors[0].getModifiers()));
        Due.is("constructor's parameters", constructors[0].getParameterCount(), 0);
    }

    private static void members() {
        Due.part("rules of members");
        Due.is("rule 1: class", ClusterHeap.class.getModifiers(), Modifier.PUBLIC | Modifier.FINAL);
        Due.is("rule 1: nested classes", ClusterHeap.class.getDeclaredClasses().length, 0);
        Due.isTrue("no package", ClusterHeap.class.getPackageName().isEmpty());
        int fields = 0;
        for (Field f : ClusterHeap.class.getDeclaredFields()) {
            Due.isTrue("rule 2: type of " + f.getName(), TYPES.contains(f.getType()));
            if (Modifier.isStatic(f.getModifiers())) {
                Due.isTrue("rule 5: " + f.getName() + " is final", Modifier.isFinal(f.getModifiers()));
                Due.isTrue("rule 5: type of " + f.getName(),
                    f.getType() == int.class || f.getType() == long.class);
            } else {
                fields++;
                Due.isTrue("rule 4: array " + f.getName() + " is final",
                    !f.getType().isArray() || Modifier.isFinal(f.getModifiers()));
            }
        }
        Due.isTrue("rule 10: fields " + fields, fields <= 40);
    }

    private static String signature(Method m) {
        StringBuilder parameters = new StringBuilder();
        for (Class<?> type : m.getParameterTypes()) {
            parameters.append(parameters.length() == 0 ? "" : ", ").append(type.getName());
        }
        return m.getReturnType().getName() + " " + m.getName() + "(" + parameters + ")";
    }

    private static void same(String what, Set<String> got, Set<String> want) {
        Due.isTrue(what + " " + Arrays.toString(got.toArray()), got.equals(want));
    }
}
