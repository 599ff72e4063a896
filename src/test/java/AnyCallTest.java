import java.lang.reflect.InvocationTargetException;
import java.lang.reflect.Method;
import java.lang.reflect.Modifier;
import java.util.ArrayList;
import java.util.Comparator;
import java.util.List;

/**
 * Rules 7 and 11 of LANGUAGE.md: no call throws, for any arguments in any state, also behind the
 * 512th call; and two objects with the same calls answer alike. The calls come from a generator
 * with a fixed start, so each time they are the same.
 */
public final class AnyCallTest {
    private static final int OBJECTS = 2000;
    private static final int CALLS = 3000;
    private static final int[] ODD = {
        Integer.MIN_VALUE, -64, -8, -4, -2, -1, 4, 5, 8, 9, 32, 64, 65, 299, 300, 301, Integer.MAX_VALUE};

    private static long seed = 20261115L;

    public static void main(String[] args) throws IllegalAccessException {
        List<Method> open = openMethods();
        int full = 0;
        int rounds = 0;
        for (int object = 0; object < OBJECTS && Due.wrongSoFar() == 0; object++) {
            Due.part("object " + object);
            ClusterHeap heap = new ClusterHeap();
            // Few odd numbers bring an object far, many try its bounds.
            twins(heap, new ClusterHeap(), mixOf(open), object % 10);
            full += heap.total(0) == 300 ? 1 : 0;
            rounds += heap.total(1);
        }
        Due.part("objects");
        Due.isTrue("some come to 300 accesses", full > 0);
        Due.isTrue("some come to rounds", rounds > 0);
        Due.end();
    }

    private static void twins(ClusterHeap one, ClusterHeap two, List<Method> mix, int oddOfTen) throws IllegalAccessException {
        for (int i = 0; i < CALLS && Due.wrongSoFar() == 0; i++) {
            Method method = mix.get(below(mix.size()));
            Object[] given = arguments(method, oddOfTen);
            Object first = answer(method, one, given);
            Object second = answer(method, two, given);
            Due.isTrue("call " + i + ", " + method.getName() + List.of(given) + ", answers alike", first.equals(second));
        }
    }

    /** Each method not at all up to three times: with all of them alike, all machines soon stand still. */
    private static List<Method> mixOf(List<Method> open) {
        List<Method> mix = new ArrayList<>();
        for (Method method : open) {
            for (int times = below(4); times > 0; times--) {
                mix.add(method);
            }
        }
        return mix.isEmpty() ? open : mix;
    }

    /** In the order of their names, as reflection promises none. */
    private static List<Method> openMethods() {
        List<Method> open = new ArrayList<>();
        for (Method method : ClusterHeap.class.getDeclaredMethods()) {
            if (Modifier.isPublic(method.getModifiers())) {
                open.add(method);
            }
        }
        open.sort(Comparator.comparing(Method::getName));
        return open;
    }

    private static int below(int bound) {
        seed = seed * 6364136223846793005L + 1442695040888963407L;
        return (int) ((seed >>> 33) % bound);
    }

    private static Object[] arguments(Method method, int oddOfTen) {
        Object[] given = new Object[method.getParameterCount()];
        for (int i = 0; i < given.length; i++) {
            if (method.getParameterTypes()[i] == boolean.class) {
                given[i] = below(2) == 0;
            } else {
                given[i] = below(10) < oddOfTen ? ODD[below(ODD.length)] : below(4);
            }
        }
        return given;
    }

    private static Object answer(Method method, ClusterHeap heap, Object[] given) throws IllegalAccessException {
        try {
            return method.invoke(heap, given);
        } catch (InvocationTargetException e) {
            Due.isTrue(method.getName() + List.of(given) + " does not throw, but " + e.getCause(), false);
            return 0;
        }
    }
}
