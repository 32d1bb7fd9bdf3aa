import java.io.IOException;
import java.nio.file.Files;
import java.nio.file.Path;
import java.util.HashSet;
import java.util.Map;
import java.util.Set;
import java.util.TreeMap;
import java.util.TreeSet;
import java.util.regex.Matcher;
import java.util.regex.Pattern;

/** Rules of LANGUAGE.md that can be seen in the source; it is run from the project's folder. */
public final class LanguageTest {
    private static final Checks CHECKS = new Checks("LanguageTest");
    private static final Path SOURCE = Path.of("src/main/java/OthersHours.java");
    private static final String FORBIDDEN = "\\b(throw|throws|try|catch|synchronized|assert|package|protected|float|double"
        + "|Object|Random|Thread|Class|hashCode|toString|extends|lambda|yield|native|volatile|transient)\\b"
        + "|->|::|Exact\\(|\"|@|\\bstatic\\s*\\{";
    private static final String LIBRARY = "Arrays.fill|System.arraycopy|Math.max|Math.min|Integer.bitCount";
    private static final Pattern HEAD = Pattern.compile("^( {4}| {8})(?!return|new)[A-Za-z][\\w\\[\\] ]*?\\b(\\w+)\\(([^()]*)\\) \\{$");

    public static void main(String[] args) throws IOException {
        String source = Files.readString(SOURCE);
        CHECKS.holds("signs 1 to 127", source.chars().allMatch(c -> c > 0 && c < 128));
        String code = source.replaceAll("(?s)/\\*.*?\\*/", "").replaceAll("//[^\n]*", "");
        Matcher forbidden = Pattern.compile(FORBIDDEN).matcher(code);
        while (forbidden.find()) {
            CHECKS.holds("forbidden: " + forbidden.group(), false);
        }
        imports(code);
        library(code);
        methods(code);
        CHECKS.end();
    }

    private static void imports(String code) {
        Matcher m = Pattern.compile("\\bimport ([^;]*);").matcher(code);
        while (m.find()) {
            CHECKS.holds("import of " + m.group(1), m.group(1).equals("java.util.Arrays"));
        }
    }

    private static void library(String code) {
        Matcher m = Pattern.compile("\\b(?:[A-Z]\\w*[a-z]\\w*)\\.\\w+").matcher(code.replaceAll("import [^;]*;", ""));
        while (m.find()) {
            CHECKS.holds("library: " + m.group(), m.group().matches(LIBRARY));
        }
    }

    private static void methods(String code) {
        Map<String, String> bodies = new TreeMap<>();
        String[] lines = code.split("\n");
        for (int i = 0; i < lines.length; i++) {
            Matcher head = HEAD.matcher(lines[i]);
            if (!head.matches()) {
                continue;
            }
            int end = i;
            while (!lines[end].equals(head.group(1) + "}")) {
                end++;
            }
            String name = head.group(2);
            StringBuilder body = new StringBuilder();
            for (int k = i + 1; k < end; k++) {
                body.append(lines[k]).append('\n');
            }
            CHECKS.holds(name + " is short", end - i <= 60);
            CHECKS.holds(name + " takes at most seven", head.group(3).split(",").length <= 7);
            boolean constructor = Character.isUpperCase(name.charAt(0));
            CHECKS.holds(name + " makes nothing", constructor || !Pattern.compile("\\bnew\\b").matcher(body).find());
            bodies.merge(name, body.toString(), String::concat);
        }
        CHECKS.holds("methods were found: " + bodies.size(), bodies.size() > 80);
        for (String name : bodies.keySet()) {
            CHECKS.due("calls deep from " + name + " above 8", Math.max(0, deep(name, bodies, new HashSet<>()) - 8), 0);
        }
    }

    /** How many calls stand open at most, from this one on; a recursion counts as one. */
    private static int deep(String name, Map<String, String> bodies, Set<String> open) {
        open.add(name);
        int most = 0;
        Matcher m = Pattern.compile("\\b(\\w+)\\(").matcher(bodies.get(name));
        Set<String> called = new TreeSet<>();
        while (m.find()) {
            called.add(m.group(1));
        }
        for (String next : called) {
            if (bodies.containsKey(next) && !open.contains(next)) {
                most = Math.max(most, deep(next, bodies, open));
            }
        }
        open.remove(name);
        return 1 + most;
    }
}
