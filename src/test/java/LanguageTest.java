import java.io.IOException;
import java.nio.file.Files;
import java.nio.file.Path;
import java.util.ArrayDeque;
import java.util.ArrayList;
import java.util.Deque;
import java.util.LinkedHashMap;
import java.util.List;
import java.util.Map;
import java.util.Set;
import java.util.TreeSet;
import java.util.regex.Matcher;
import java.util.regex.Pattern;

/** The rules of LANGUAGE.md that can be seen in the source text. */
public final class LanguageTest {
    private static final String SOURCE = "src/main/java/ClusterHeap.java";
    private static final int LONGEST_METHOD = 60;
    private static final int DEEPEST_CALL = 6;

    private static final String[] WORDS = {
        "import", "package", "null", "throw", "throws", "try", "catch", "synchronized", "assert", "instanceof",
        "float", "double", "String", "Math", "Integer", "Long", "System", "Arrays", "Object", "record",
        "enum", "interface", "protected", "this", "super", "hashCode", "equals", "toString", "getClass"
    };

    private static final String[] SIGNS = {"->", "::", "static\\s*\\{", "\\[\\s*\\]\\s*\\[", "@", "\""};

    private static final Set<String> NO_CALLS = Set.of("if", "for", "while", "switch", "return");

    public static void main(String[] args) throws IOException {
        String text = Files.readString(Path.of(SOURCE)).replaceAll("//[^\n]*", "");
        forbiddenWords(text);
        arraysMadeInFields(text);
        loopsAreCounted(text);
        Map<String, String> methods = methods(text);
        methodsAreShort(methods);
        noCallInsideArguments(methods);
        callsEndAndAreNotDeep(methods);
        Due.end();
    }

    private static void forbiddenWords(String text) {
        Due.part("rules 2, 3, 5 and 6");
        for (String word : WORDS) {
            Due.isFalse(word + " stands in it", Pattern.compile("\\b" + word + "\\b").matcher(text).find());
        }
        for (String sign : SIGNS) {
            Due.isFalse(sign + " stands in it", Pattern.compile(sign).matcher(text).find());
        }
    }

    private static void arraysMadeInFields(String text) {
        Due.part("rule 4");
        for (String line : text.split("\n")) {
            Due.isTrue(line.trim(), !line.contains("new ")
                || line.matches("    private final \\w+\\[\\] \\w+ = new \\w+\\[[A-Z_]+\\];"));
        }
    }

    private static void loopsAreCounted(String text) {
        Due.part("rule 8: loops");
        Due.isFalse("a loop without a counter stands in it", Pattern.compile("\\b(while|do)\\b").matcher(text).find());
        Matcher loop = Pattern.compile("\\bfor \\(.*").matcher(text);
        while (loop.find()) {
            String line = loop.group();
            Due.isTrue(line, line.matches("for \\(int (\\w+) = \\w+; \\1 < [\\w +]+; \\1\\+\\+\\) \\{"));
        }
    }

    /** Each method's name with its text from the line of its head to its last brace. */
    private static Map<String, String> methods(String text) {
        Map<String, String> methods = new LinkedHashMap<>();
        Matcher m = Pattern.compile("(?ms)^    (?:public|private) \\w+ ?(\\w*)\\(.*?^    \\}$").matcher(text);
        while (m.find()) {
            methods.put(m.group(1), m.group());
        }
        Due.part("methods");
        Due.isTrue("methods are found", methods.containsKey("read") && methods.containsKey("total") && methods.size() > 40);
        return methods;
    }

    private static void methodsAreShort(Map<String, String> methods) {
        Due.part("rule 10: length");
        for (String name : methods.keySet()) {
            Due.isTrue(name + " is short", methods.get(name).split("\n").length <= LONGEST_METHOD);
        }
    }

    private static String body(String method) {
        return method.substring(method.indexOf('{'));
    }

    private static void noCallInsideArguments(Map<String, String> methods) {
        Due.part("rule 10: no call inside the arguments of another");
        for (String name : methods.keySet()) {
            Deque<Boolean> open = new ArrayDeque<>();
            Matcher m = Pattern.compile("(\\w*) ?\\(|\\)").matcher(body(methods.get(name)));
            while (m.find()) {
                if (m.group().equals(")")) {
                    open.pop();
                } else {
                    boolean call = isCall(m.group(1));
                    Due.isFalse(name + ": " + m.group() + " inside a call", call && open.contains(true));
                    open.push(call);
                }
            }
        }
    }

    private static boolean isCall(String name) {
        return !name.isEmpty() && !NO_CALLS.contains(name);
    }

    private static void callsEndAndAreNotDeep(Map<String, String> methods) {
        Due.part("rules 8 and 10: recursion and depth");
        Map<String, Set<String>> calls = new LinkedHashMap<>();
        for (String name : methods.keySet()) {
            Set<String> called = new TreeSet<>();
            Matcher m = Pattern.compile("(\\w+)\\(").matcher(body(methods.get(name)));
            while (m.find()) {
                Due.isTrue(name + " calls a method of its own class: " + m.group(1), methods.containsKey(m.group(1)));
                called.add(m.group(1));
            }
            calls.put(name, called);
        }
        for (String name : calls.keySet()) {
            // A recursion never runs out of calls, so it shows as a great depth, too.
            Due.isTrue(name + " goes at most six deep", depth(name, calls) <= DEEPEST_CALL);
        }
    }

    private static int depth(String name, Map<String, Set<String>> calls) {
        List<String> level = List.of(name);
        int depth = 0;
        while (!level.isEmpty() && depth <= DEEPEST_CALL) {
            Set<String> next = new TreeSet<>();
            for (String caller : level) {
                next.addAll(calls.getOrDefault(caller, Set.of()));
            }
            level = new ArrayList<>(next);
            depth++;
        }
        return depth;
    }
}
