import java.lang.reflect.InvocationTargetException;
import java.lang.reflect.Method;
import java.lang.reflect.Modifier;
import java.nio.file.Files;
import java.nio.file.Path;
import java.util.Arrays;
import java.util.HashMap;
import java.util.List;
import java.util.Map;
import java.util.Set;
import java.util.TreeSet;
import java.util.regex.Matcher;
import java.util.regex.Pattern;
import java.util.stream.Collectors;
import java.util.stream.Stream;

/**
 * Runs what README.md shows: each line of its Java blocks makes an object, or is a call with its answer
 * behind it. A line that is neither is a fault, so that nothing stands there untested.
 */
public final class ReadmeTest {
    private static final Path README = Path.of("README.md");
    private static final Path TESTS = Path.of("src/test/java");
    private static final String NAMES = "- `src/test/java/";
    private static final String OPENS = "```java";
    private static final String CLOSES = "```";
    private static final int MOST_CALLS = 512;
    private static final Pattern MAKES = Pattern.compile("BernoulliWays (\\w+) = new BernoulliWays\\(\\);");
    private static final Pattern CALLS = Pattern.compile("(\\w+)\\.(\\w+)\\(([-0-9, ]+)\\); +// ([^:]+)(: .+)?");

    private static final Map<String, BernoulliWays> OBJECTS = new HashMap<>();
    private static final Map<String, Integer> ASKED = new HashMap<>();
    private static final Set<String> SHOWN = new TreeSet<>();
    private static int calls = 0;
    private static int wrong = 0;

    public static void main(String[] args) throws Exception {
        List<String> lines = Files.readAllLines(README);
        runBlocks(lines);
        everyCallIsShown();
        everyTestIsNamed(lines);
        System.out.println(calls + " calls of README.md, " + wrong + " faults");
        if (wrong != 0) {
            System.exit(1);
        }
    }

    private static void must(boolean holds, String what) {
        if (!holds) {
            wrong++;
            System.out.println(what);
        }
    }

    private static void runBlocks(List<String> lines) throws Exception {
        boolean inside = false;
        for (String line : lines) {
            if (line.equals(OPENS)) {
                inside = true;
            } else if (line.equals(CLOSES)) {
                inside = false;
            } else if (inside) {
                runLine(line);
            }
        }
        must(!inside, "a block of README.md has no end");
    }

    private static void runLine(String line) throws Exception {
        Matcher makes = MAKES.matcher(line);
        Matcher call = CALLS.matcher(line);
        if (makes.matches()) {
            OBJECTS.put(makes.group(1), new BernoulliWays());
            ASKED.put(makes.group(1), 0);
        } else if (call.matches()) {
            runCall(line, call);
        } else {
            must(false, "neither an object nor a call with its answer: " + line);
        }
    }

    private static void runCall(String line, Matcher call) throws Exception {
        BernoulliWays object = OBJECTS.get(call.group(1));
        Object[] values = Arrays.stream(call.group(3).split(", ")).map(Integer::valueOf).toArray();
        Method method = methodOf(call.group(2), values.length);
        if (object == null || method == null) {
            must(false, "no such object or call: " + line);
            return;
        }
        calls++;
        SHOWN.add(method.getName());
        must(ASKED.merge(call.group(1), 1, Integer::sum) <= MOST_CALLS, "too many calls: " + line);
        String got = answer(object, method, values);
        String due = dueOf(call.group(4).trim());
        must(got.equals(due), line + " answered " + got);
    }

    private static Method methodOf(String name, int parameters) {
        for (Method method : BernoulliWays.class.getDeclaredMethods()) {
            if (isOfFace(method) && method.getName().equals(name) && method.getParameterCount() == parameters) {
                return method;
            }
        }
        return null;
    }

    private static boolean isOfFace(Method method) {
        return Modifier.isPublic(method.getModifiers());
    }

    private static String answer(BernoulliWays object, Method method, Object[] values) throws Exception {
        try {
            return String.valueOf(((Number) method.invoke(object, values)).longValue());
        } catch (InvocationTargetException e) {
            return "throws " + e.getCause().getClass().getSimpleName();
        }
    }

    private static String dueOf(String word) {
        return switch (word) {
            case "NONE" -> String.valueOf(BernoulliWays.NONE);
            case "NO" -> String.valueOf(Long.MIN_VALUE);
            default -> word;
        };
    }

    private static void everyCallIsShown() {
        for (Method method : BernoulliWays.class.getDeclaredMethods()) {
            must(!isOfFace(method) || SHOWN.contains(method.getName()), method.getName() + " isn't shown");
        }
    }

    private static void everyTestIsNamed(List<String> lines) throws Exception {
        List<String> tests;
        try (Stream<Path> files = Files.list(TESTS)) {
            tests = files.map(Path::getFileName).map(Path::toString).sorted().collect(Collectors.toList());
        }
        for (String test : tests) {
            must(lines.stream().anyMatch(line -> line.startsWith(NAMES + test + "`")),
                test + " isn't named in README.md");
        }
        for (String line : lines) {
            must(!line.startsWith(NAMES) || tests.contains(line.substring(NAMES.length()).split("`")[0]),
                "no such test: " + line);
        }
    }
}
