import java.io.IOException;
import java.lang.reflect.InvocationTargetException;
import java.lang.reflect.Method;
import java.lang.reflect.Modifier;
import java.nio.file.Files;
import java.nio.file.Path;
import java.util.Map;
import java.util.Set;
import java.util.TreeMap;
import java.util.TreeSet;
import java.util.regex.Matcher;
import java.util.regex.Pattern;
import java.util.stream.Stream;

/** What README.md shows is what the class answers; it is run from the project's folder. */
public final class ReadmeTest {
    private static final Checks CHECKS = new Checks("ReadmeTest");
    private static final Path README = Path.of("README.md");
    private static final Path TESTS = Path.of("src/test/java");
    private static final int CALLS_MOST = 512;
    private static final Pattern BLOCK = Pattern.compile("(?ms)^```java\n(.*?)^```$");
    private static final Pattern TYPED =
        Pattern.compile("for \\(char c : \"([0-9;]*)\"\\.toCharArray\\(\\)\\) x\\.type\\(([01]), c\\);");
    private static final Pattern CALL = Pattern.compile("x\\.(\\w+)\\((-?\\d+(?:, -?\\d+)*)?\\); +// ([^:]*)(?:: .*)?");
    private static final Pattern ROW = Pattern.compile("(?m)^\\| (\\w+Test) \\|");

    private final Map<String, Method> face = new TreeMap<>();
    private final Set<String> shown = new TreeSet<>();
    private OthersHours x;
    private int calls;

    public static void main(String[] args) throws IOException, ReflectiveOperationException {
        String readme = Files.readString(README);
        new ReadmeTest().examples(readme);
        table(readme);
        CHECKS.end();
    }

    private ReadmeTest() {
        for (Method m : OthersHours.class.getDeclaredMethods()) {
            if (Modifier.isPublic(m.getModifiers())) {
                face.put(m.getName(), m);
            }
        }
    }

    private void examples(String readme) throws ReflectiveOperationException {
        Matcher block = BLOCK.matcher(readme);
        while (block.find()) {
            for (String line : block.group(1).split("\n")) {
                follow(line);
            }
        }
        CHECKS.holds("calls that are not shown: " + left(), left().isEmpty());
        CHECKS.holds(calls + " calls are more than an object is used for", calls <= CALLS_MOST);
    }

    private Set<String> left() {
        Set<String> left = new TreeSet<>(face.keySet());
        left.removeAll(shown);
        return left;
    }

    private void follow(String line) throws ReflectiveOperationException {
        Matcher typed = TYPED.matcher(line);
        Matcher call = CALL.matcher(line);
        if (line.equals("OthersHours x = new OthersHours();")) {
            CHECKS.holds("one object is made", x == null);
            x = new OthersHours();
        } else if (x != null && typed.matches()) {
            shown.add("type");
            calls += typed.group(1).length();
            Checks.type(x, Integer.parseInt(typed.group(2)), typed.group(1));
        } else if (x != null && call.matches() && face.containsKey(call.group(1))) {
            shown.add(call.group(1));
            calls++;
            CHECKS.due(line, answer(face.get(call.group(1)), call.group(2)), number(line, call.group(3)));
        } else {
            CHECKS.holds("not a line that can be tried: " + line, false);
        }
    }

    private long answer(Method method, String numbers) throws IllegalAccessException, InvocationTargetException {
        String[] each = numbers == null ? new String[0] : numbers.split(", ");
        Object[] arguments = new Object[each.length];
        for (int i = 0; i < each.length; i++) {
            arguments[i] = Integer.valueOf(each[i]);
        }
        return ((Number) method.invoke(x, arguments)).longValue();
    }

    private static long number(String line, String told) {
        switch (told) {
            case "NONE": return OthersHours.NONE;
            case "BAD": return OthersHours.BAD;
            case "NOT": return OthersHours.NOT;
            case "FULL": return OthersHours.FULL;
            case "Integer.MIN_VALUE": return Integer.MIN_VALUE;
            default:
        }
        boolean plain = told.matches("-?(0|[1-9]\\d*)|0x[0-9a-f]+");
        CHECKS.holds("no answer is shown: " + line, plain);
        return plain ? Long.decode(told) : 0;
    }

    private static void table(String readme) throws IOException {
        Set<String> named = new TreeSet<>();
        Matcher row = ROW.matcher(readme);
        while (row.find()) {
            CHECKS.holds(row.group(1) + " is named once", named.add(row.group(1)));
        }
        Set<String> there = new TreeSet<>();
        try (Stream<Path> files = Files.list(TESTS)) {
            files.map(file -> file.getFileName().toString()).filter(name -> name.endsWith("Test.java"))
                .forEach(name -> there.add(name.replace(".java", "")));
        }
        CHECKS.holds("the tests that README.md names: " + named + ", that there are: " + there, named.equals(there));
    }
}
