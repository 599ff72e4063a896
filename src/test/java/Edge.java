import java.util.List;

/** Calls at a bound of the document: what they answer, and that they leave everything as it was. */
final class Edge {
    static final long REFUSED = -1;
    static final long FULL = -2;
    static final long NOTHING = -10000000000L;
    static final long NO = 0;

    private static final String LOCKS = allLocks() + pairs("knows", 4, 4) + pairs("keeps", 4, 4);
    private static final String PAGES = pairs("has", 4, 8) + pairs("stale", 4, 8) + pairs("count", 4, 5) + singles("races", 64);

    private Edge() {
    }

    /** Numbers that are none of 0 .. bound - 1: just outside, as far outside again, and the extremes. */
    static int[] outside(int bound) {
        return new int[] {-1, bound, -bound, 2 * bound, Integer.MIN_VALUE, Integer.MAX_VALUE};
    }

    /**
     * In each scene the call answers what is due and changes nothing: an object with it and one
     * without it answer all questions alike, and go on alike. Each list of questions has objects
     * of its own, as all of them together behind 300 accesses would be too many calls.
     */
    static void still(String call, long due, Scene... scenes) {
        for (Scene scene : scenes) {
            same(scene, call, due, LOCKS);
            same(scene, call, due, PAGES);
            same(scene, call, due, goingOn(scene));
        }
    }

    private static void same(Scene scene, String call, long due, String questions) {
        Run with = Run.of(scene.before);
        Run without = Run.of(scene.before);
        Due.is(call, with.call(call), due);
        List<Long> got = with.answers(questions);
        List<Long> want = without.answers(questions);
        List<String> asked = Run.steps(questions);
        for (int i = 0; i < asked.size(); i++) {
            Due.is(asked.get(i) + " behind " + call, got.get(i), want.get(i));
        }
    }

    private static String goingOn(Scene scene) {
        return scene.after + readsOfAll(0, 7, 8, 9, 20, 40, 63) + pairs("count", 4, 5)
            + Scene.ALL_ARRIVE + "tidy(); " + readsOfEachWord() + allTotals();
    }

    private static String allLocks() {
        StringBuilder all = new StringBuilder(singles("state", 4) + singles("holder", 4) + singles("ring", 4));
        for (int lock = 0; lock < 4; lock++) {
            for (int k = -1; k < 4; k++) {
                all.append("waits(" + lock + ", false, " + k + "); waits(" + lock + ", true, " + k + "); ");
            }
        }
        return all + allTotals();
    }

    private static String allTotals() {
        return singles("total", 3);
    }

    private static String readsOfAll(int... words) {
        StringBuilder all = new StringBuilder();
        for (int word : words) {
            for (int machine = 0; machine < 4; machine++) {
                all.append("read(" + machine + ", " + word + "); ");
            }
        }
        return all.toString();
    }

    private static String readsOfEachWord() {
        StringBuilder all = new StringBuilder();
        for (int word = 0; word < 64; word++) {
            all.append("read(" + word % 4 + ", " + word + "); ");
        }
        return all.toString();
    }

    private static String singles(String name, int bound) {
        StringBuilder all = new StringBuilder();
        for (int a = 0; a < bound; a++) {
            all.append(name + "(" + a + "); ");
        }
        return all.toString();
    }

    private static String pairs(String name, int first, int second) {
        StringBuilder all = new StringBuilder();
        for (int a = 0; a < first; a++) {
            for (int b = 0; b < second; b++) {
                all.append(name + "(" + a + ", " + b + "); ");
            }
        }
        return all.toString();
    }
}
