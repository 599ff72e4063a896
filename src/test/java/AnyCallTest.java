import java.lang.reflect.InvocationTargetException;
import java.lang.reflect.Method;
import java.lang.reflect.Modifier;
import java.util.ArrayList;
import java.util.Comparator;
import java.util.List;

/**
 * Rules 7 and 11 of LANGUAGE.md: no call throws, for any arguments in any state, also behind the
 * 512th call; and two objects with the same calls answer alike. The calls come from a generator
 * with a fixed start, so each time they are the same.
 */
public final class AnyCallTest {
    private static final int OBJECTS = 200;
    private static final int CALLS = 3000;
    private static final int[] ODD = {
        Integer.MIN_VALUE, -64, -8, -4, -2, -1, 4, 5, 8, 9, 32, 64, 65, 299, 300, 301, Integer.MAX_VALUE};

    private static long seed = 20261115L;

    public static void main(String[] args) throws IllegalAccessException {
        List<Method> methods = openMethods();
        for (int object = 0; object < OBJECTS && Due.wrongSoFar() == 0; object++) {
            Due.part("object " + object);
            // Few odd numbers bring an object far, many try its bounds.
            int oddOfTen = object % 10;
            ClusterHeap one = new ClusterHeap();
            ClusterHeap two = new ClusterHeap();
            for (int i = 0; i < CALLS && Due.wrongSoFar() == 0; i++) {
                Method method = methods.get(below(methods.size()));
                Object[] given = arguments(method, oddOfTen);
                Object first = answer(method, one, given);
                Object second = answer(method, two, given);
                Due.isTrue("call " + i + ", " + method.getName() + List.of(given) + ", answers alike", first.equals(second));
            }
        }
        Due.end();
    }

    /** In the order of their names, as reflection promises none. */
    private static List<Method> openMethods() {
        List<Method> open = new ArrayList<>();
        for (Method method : ClusterHeap.class.getDeclaredMethods()) {
            if (Modifier.isPublic(method.getModifiers())) {
                open.add(method);
            }
        }
        open.sort(Comparator.comparing(Method::getName));
        return open;
    }

    private static int below(int bound) {
        seed = seed * 6364136223846793005L + 1442695040888963407L;
        return (int) ((seed >>> 33) % bound);
    }

    private static Object[] arguments(Method method, int oddOfTen) {
        Object[] given = new Object[method.getParameterCount()];
        for (int i = 0; i < given.length; i++) {
            if (method.getParameterTypes()[i] == boolean.class) {
                given[i] = below(2) == 0;
            } else {
                given[i] = below(10) < oddOfTen ? ODD[below(ODD.length)] : below(4);
            }
        }
        return given;
    }

    private static Object answer(Method method, ClusterHeap heap, Object[] given) throws IllegalAccessException {
        try {
            return method.invoke(heap, given);
        } catch (InvocationTargetException e) {
            Due.isTrue(method.getName() + List.of(given) + " does not throw, but " + e.getCause(), false);
            return 0;
        }
    }
}
