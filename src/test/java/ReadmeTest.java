import java.io.IOException;
import java.lang.reflect.Method;
import java.lang.reflect.Modifier;
import java.nio.file.Files;
import java.nio.file.Path;
import java.util.ArrayList;
import java.util.List;
import java.util.regex.Matcher;
import java.util.regex.Pattern;
import java.util.stream.Stream;

/** README.md: its examples answer what they say, and it names every call and every test. */
public final class ReadmeTest {
    private static final Path README = Path.of("README.md");
    private static final Path TESTS = Path.of("src/test/java");
    private static final String START = "ClusterHeap heap = new ClusterHeap();";
    private static final Pattern STEP = Pattern.compile("heap\\.((\\w+)\\((.*)\\)); +// (\\S+): .*");
    private static final Pattern EXAMPLE = Pattern.compile("(?ms)^```java\n(.*?)^```$");

    public static void main(String[] args) throws IOException {
        String text = Files.readString(README);
        examples(text);
        namesEveryCall(text);
        namesEveryTest(text);
        Due.end();
    }

    private static void examples(String text) {
        Matcher example = EXAMPLE.matcher(text);
        int found = 0;
        while (example.find()) {
            found++;
            Due.part("example " + found);
            playExample(List.of(example.group(1).split("\n")));
        }
        Due.part("examples");
        Due.isTrue("README.md has some", found > 0);
    }

    private static void playExample(List<String> lines) {
        Due.isTrue("it makes a new object first", lines.get(0).equals(START));
        Run run = new Run();
        for (String line : lines.subList(1, lines.size())) {
            Matcher step = STEP.matcher(line);
            if (step.matches()) {
                Due.isTrue(line + " is Java with this answer", fits(step.group(2), step.group(3), step.group(4)));
                run.play(step.group(1) + " = " + step.group(4));
            } else {
                Due.isTrue(line + " is a call with its answer", false);
            }
        }
    }

    /** Run takes numbers for booleans and passes over arguments too many; a compiler would not. */
    private static boolean fits(String name, String arguments, String answer) {
        List<Class<?>> types = new ArrayList<>();
        if (!arguments.isEmpty()) {
            for (String argument : arguments.split(", ")) {
                types.add(isBoolean(argument) ? boolean.class : int.class);
            }
        }
        for (Method method : ClusterHeap.class.getMethods()) {
            if (method.getName().equals(name) && types.equals(List.of(method.getParameterTypes()))) {
                return isBoolean(answer) == (method.getReturnType() == boolean.class);
            }
        }
        return false;
    }

    private static boolean isBoolean(String text) {
        return text.equals("true") || text.equals("false");
    }

    private static void namesEveryCall(String text) {
        Due.part("calls");
        for (Method method : ClusterHeap.class.getDeclaredMethods()) {
            if (Modifier.isPublic(method.getModifiers())) {
                String row = "\\| `" + method.getName() + "\\(" + parameters(method.getParameterCount()) + "\\)` \\|";
                Due.isTrue("a row of README.md tells of " + method, Pattern.compile(row).matcher(text).find());
            }
        }
    }

    private static String parameters(int many) {
        return many == 0 ? "" : "\\w+(, \\w+){" + (many - 1) + "}";
    }

    private static void namesEveryTest(String text) throws IOException {
        Due.part("tests");
        try (Stream<Path> files = Files.list(TESTS)) {
            for (Path file : files.toList()) {
                String name = file.getFileName().toString().replace(".java", "");
                if (name.endsWith("Test")) {
                    Due.isTrue("README.md tells of " + name, text.contains("`" + name + "`"));
                }
            }
        }
    }
}
