import java.util.ArrayList;
import java.util.List;

/**
 * An object of ClusterHeap whose calls are told as text, so that a test reads as the run that it
 * is, and a wrong answer is shown with its call. A script is "call; call = due; ..": an answer
 * is looked at where one is due. A boolean counts 1 or 0.
 */
final class Run {
    // What an object answers behind its 512th call is free, so no test may come to rest on it.
    private static final int MOST_CALLS = 512;

    private final ClusterHeap heap = new ClusterHeap();
    private int calls = 0;

    static Run of(String... scripts) {
        Run run = new Run();
        for (String script : scripts) {
            run.play(script);
        }
        return run;
    }

    void play(String script) {
        for (String step : steps(script)) {
            String[] sides = step.split("=");
            long got = call(sides[0].trim());
            if (sides.length > 1) {
                Due.is(sides[0].trim(), got, number(sides[1].trim()));
            }
        }
    }

    List<Long> answers(String script) {
        List<Long> all = new ArrayList<>();
        for (String step : steps(script)) {
            all.add(call(step));
        }
        return all;
    }

    long call(String text) {
        calls++;
        if (calls > MOST_CALLS) {
            Due.isTrue(text + " is one of the first 512 calls", false);
            return 0;
        }
        int open = text.indexOf('(');
        String inside = text.substring(open + 1, text.length() - 1).trim();
        String[] parts = inside.isEmpty() ? new String[0] : inside.split(",");
        int[] given = new int[parts.length];
        for (int i = 0; i < parts.length; i++) {
            given[i] = (int) number(parts[i].trim());
        }
        try {
            return make(text.substring(0, open), given);
        } catch (RuntimeException e) {
            Due.isTrue(text + " does not throw, but " + e, false);
            return 0;
        }
    }

    static List<String> steps(String script) {
        List<String> steps = new ArrayList<>();
        for (String step : script.split(";")) {
            if (!step.isBlank()) {
                steps.add(step.trim());
            }
        }
        return steps;
    }

    private static long number(String text) {
        return switch (text) {
            case "true" -> 1;
            case "false" -> 0;
            case "MAX" -> Integer.MAX_VALUE;
            case "MIN" -> Integer.MIN_VALUE;
            case "REFUSED" -> -1;
            case "FULL" -> -2;
            case "NOTHING" -> -10000000000L;
            default -> Long.parseLong(text);
        };
    }

    private static long bit(boolean answer) {
        return answer ? 1 : 0;
    }

    private long make(String name, int[] a) {
        return switch (name) {
            case "mode" -> bit(heap.mode(a[0], a[1] == 1));
            case "read" -> heap.read(a[0], a[1]);
            case "write" -> heap.write(a[0], a[1], a[2]);
            case "add" -> heap.add(a[0], a[1], a[2]);
            case "acquire" -> heap.acquire(a[0], a[1]);
            case "release" -> bit(heap.release(a[0], a[1]));
            case "rest" -> bit(heap.rest(a[0], a[1]));
            case "wake" -> heap.wake(a[0], a[1], a[2] == 1);
            case "arrive" -> heap.arrive(a[0]);
            case "refresh" -> heap.refresh(a[0]);
            case "tidy" -> heap.tidy();
            case "state" -> heap.state(a[0]);
            case "holder" -> heap.holder(a[0]);
            case "waits" -> heap.waits(a[0], a[1] == 1, a[2]);
            case "ring" -> heap.ring(a[0]);
            case "has" -> heap.has(a[0], a[1]);
            case "stale" -> heap.stale(a[0], a[1]);
            case "knows" -> heap.knows(a[0], a[1]);
            case "keeps" -> heap.keeps(a[0], a[1]);
            case "count" -> heap.count(a[0], a[1]);
            case "races" -> heap.races(a[0]);
            case "total" -> heap.total(a[0]);
            default -> throw new IllegalArgumentException("no call " + name);
        };
    }
}
