import java.io.IOException;
import java.nio.file.Files;
import java.nio.file.Path;
import java.util.ArrayList;
import java.util.List;

/** The document's terms and promises, and which of their words a test has quoted. */
final class Document {
    static final int TERMS = 0;
    private static final int PROMISES = 41;
    private static final Path PLACE = Path.of("../shared/DOC.md");

    private final String[] parts = new String[1 + PROMISES];
    private final boolean[][] quoted = new boolean[1 + PROMISES][];

    Document() throws IOException {
        String all = Files.readString(PLACE);
        String terms = between(all, "======== 1", "## The public face")
            + between(all, "## Terms", "Ahead of the calls `type`");
        parts[TERMS] = plain(terms.replaceAll("```(text)?|======== \\d", " "));
        for (int n = 1; n <= PROMISES; n++) {
            String promise = between(all, "## Promise " + n + ":", "\n## ");
            parts[n] = plain(promise.substring(promise.indexOf("`: ") + 3));
        }
        for (int n = 0; n <= PROMISES; n++) {
            quoted[n] = new boolean[parts[n].length()];
        }
    }

    private static String between(String all, String head, String end) {
        int from = all.indexOf(head);
        if (from < 0 || all.indexOf(end, from) < 0) {
            throw new IllegalStateException("the document has no part from " + head + " to " + end);
        }
        return all.substring(from + head.length(), all.indexOf(end, from));
    }

    private static String plain(String text) {
        return text.replaceAll("\\s+", " ").trim();
    }

    /** Whether a part says these words, and in one place only, so that it's plain which are meant. */
    boolean quote(int part, String words) {
        int from = parts[part].indexOf(words);
        if (from < 0 || parts[part].indexOf(words, from + 1) >= 0) {
            return false;
        }
        for (int i = 0; i < words.length(); i++) {
            quoted[part][from + i] = true;
        }
        return true;
    }

    /** The words that nobody has quoted, each with its part. */
    List<String> unquoted() {
        List<String> left = new ArrayList<>();
        for (int part = 0; part <= PROMISES; part++) {
            StringBuilder words = new StringBuilder();
            for (int i = 0; i < parts[part].length(); i++) {
                boolean open = !quoted[part][i];
                words.append(open ? parts[part].charAt(i) : '\n');
            }
            for (String stretch : words.toString().split("\n+")) {
                if (stretch.matches(".*\\w.*")) {
                    left.add((part == TERMS ? "terms" : "promise " + part) + ": " + stretch.trim());
                }
            }
        }
        return left;
    }
}
