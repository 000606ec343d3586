import java.io.IOException;
import java.lang.reflect.Method;
import java.lang.reflect.Modifier;
import java.nio.file.Files;
import java.nio.file.Path;
import java.util.HashMap;
import java.util.List;
import java.util.Map;
import java.util.TreeMap;
import java.util.TreeSet;
import java.util.regex.Matcher;
import java.util.regex.Pattern;
import java.util.stream.Stream;

/** README.md shows calls with their answers: each is made here, so that the page can't say what the class does not. */
public final class ReadmeTest {
    private static final Pattern MAKING = Pattern.compile("SurfaceMesh (\\w+) = new SurfaceMesh\\(\\);");
    private static final Pattern CALL = Pattern.compile("(\\w+)\\.(\\w+)\\(([-\\d, ]*)\\); +// ([-\\w]+)(: .*)?");
    private static final Map<String, Integer> WORDS = Map.of("BAD", SurfaceMesh.BAD, "FULL", SurfaceMesh.FULL,
        "REFUSED", SurfaceMesh.REFUSED, "true", 1, "false", 0);

    private static final TreeMap<String, Method> METHODS = new TreeMap<>();
    private static final Map<String, SurfaceMesh> MADE = new HashMap<>();
    private static final TreeSet<String> SHOWN = new TreeSet<>();
    private static int wrong = 0;

    public static void main(String[] args) throws Exception {
        for (Method m : SurfaceMesh.class.getDeclaredMethods()) {
            if (Modifier.isPublic(m.getModifiers())) {
                METHODS.put(m.getName(), m);
            }
        }
        List<String> page = Files.readAllLines(Path.of("README.md"));
        shownCalls(page);
        everyMethodIsShown();
        valuesOfTheConstants(String.join("\n", page));
        everyTestIsNamed(String.join("\n", page));
        System.out.println(wrong == 0 ? "README.md is as due" : "faults in README.md: " + wrong);
        if (wrong != 0) {
            System.exit(1);
        }
    }

    private static void shownCalls(List<String> page) throws Exception {
        boolean inside = false;
        for (String line : page) {
            if (line.startsWith("```")) {
                inside = line.equals("```java");
            } else if (inside && !line.isBlank()) {
                shownLine(line);
            }
        }
    }

    /** A line of another form would be shown without being tried, so it is a fault. */
    private static void shownLine(String line) throws Exception {
        Matcher making = MAKING.matcher(line);
        Matcher call = CALL.matcher(line);
        if (making.matches()) {
            MADE.put(making.group(1), new SurfaceMesh());
        } else if (call.matches() && MADE.containsKey(call.group(1)) && METHODS.containsKey(call.group(2))) {
            shownCall(line, call);
        } else {
            fault("neither a new object nor a call with its answer: " + line);
        }
    }

    private static void shownCall(String line, Matcher call) throws Exception {
        Method method = METHODS.get(call.group(2));
        Object[] given = Stream.of(call.group(3).split(", ")).filter(word -> !word.isEmpty())
            .map(Integer::valueOf).toArray();
        if (given.length != method.getParameterCount()) {
            fault("not the number of arguments: " + line);
            return;
        }
        Object got = method.invoke(MADE.get(call.group(1)), given);
        int number = got instanceof Boolean ? ((Boolean) got ? 1 : 0) : (Integer) got;
        String told = call.group(4);
        boolean truth = told.equals("true") || told.equals("false");
        int want = WORDS.containsKey(told) ? WORDS.get(told) : Integer.parseInt(told);
        if (number != want || truth != got instanceof Boolean) {
            fault("answered " + got + ": " + line);
        }
        SHOWN.add(method.getName());
    }

    private static void everyMethodIsShown() {
        if (!SHOWN.equals(METHODS.keySet())) {
            fault("shown are " + SHOWN + ", due are " + METHODS.keySet());
        }
    }

    private static void valuesOfTheConstants(String page) {
        for (String name : List.of("BAD", "FULL", "REFUSED")) {
            if (!page.contains("| `" + name + "` | " + WORDS.get(name) + " |")) {
                fault("the value of " + name + " is not told");
            }
        }
    }

    private static void everyTestIsNamed(String page) throws IOException {
        try (Stream<Path> files = Files.list(Path.of("src/test/java"))) {
            for (Path file : files.sorted().toList()) {
                String name = file.getFileName().toString().replace(".java", "");
                if (!page.contains("- `" + name + "`:")) {
                    fault("the test " + name + " is not named");
                }
            }
        }
        if (!page.contains("    .ci/run\n")) {
            fault("how the tests are run is not told");
        }
    }

    private static void fault(String text) {
        wrong++;
        System.out.println(text);
    }
}
