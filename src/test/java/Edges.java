import java.io.IOException;
import java.util.function.Supplier;
import java.util.function.ToLongFunction;

/** What the tests of the document's sentences share: a sentence is quoted, then tried at its bounds. */
final class Edges {
    static final int DAY = (1 << 24) - 1;
    static final int MOST = Integer.MAX_VALUE;
    static final int LEAST = Integer.MIN_VALUE;
    /** The finding that busy() and full() end with, so that what leaves it alone can be told. */
    static final int FOUND = 5;

    interface Call {
        long of(OthersHours x, int v);
    }

    private final Checks checks = new Checks("EdgesTest");
    private final Document document;
    private String said = "";
    private int tried = 1;

    Edges() throws IOException {
        document = new Document();
    }

    void terms(String words) {
        says(Document.TERMS, words);
    }

    void promise(int n, String words) {
        says(n, words);
    }

    private void says(int part, String words) {
        checks.holds(said + ": was quoted and not tried", tried > 0);
        said = (part == Document.TERMS ? "terms" : "promise " + part) + " [" + words + "]";
        checks.holds(said + ": the document says that not, or twice", document.quote(part, words));
        tried = 0;
    }

    void due(String call, long got, long want) {
        tried++;
        checks.due(said + " " + call, got, want);
    }

    void holds(String what, boolean so) {
        tried++;
        checks.holds(said + " " + what, so);
    }

    void end() {
        checks.holds(said + ": was quoted and not tried", tried > 0);
        for (String words : document.unquoted()) {
            checks.holds("no test quotes " + words, false);
        }
        checks.end();
    }

    /** One number of a call, the others being well: the last that may be, the first that may not, the farthest. */
    void range(String call, int low, int high, long refusal, Call c) {
        for (int v : new int[] {low, high}) {
            long answer = c.of(busy(), v);
            holds(call + " with " + v + " may be, but answered " + answer, answer != refusal);
        }
        for (int v : new int[] {low - 1, high + 1, LEAST, MOST}) {
            refused(call + " with " + v, Edges::busy, x -> c.of(x, v), refusal, FOUND);
        }
    }

    void range(String call, int low, int high, Call c) {
        range(call, low, high, OthersHours.BAD, c);
    }

    /** What a refusal answers, which finding is the latest then, and that nothing else is changed. */
    void refused(String call, Supplier<OthersHours> made, ToLongFunction<OthersHours> asked, long answer, int finding) {
        OthersHours x = made.get();
        due(call, asked.applyAsLong(x), answer);
        due(call + ", then count(8)", x.count(8), finding);
        String after = Snapshot.of(x);
        String before = Snapshot.of(made.get());
        holds(call + " changed " + before + " to " + after, before.equals(after));
    }

    void faultOf(int text, String bytes, int want) {
        OthersHours x = new OthersHours();
        Checks.type(x, text, bytes);
        due("fault(" + text + ") of \"" + bytes + "\"", x.fault(text), want);
    }

    /** One with something of all: 3 is lost, the other sheets are of bytes, bytes and ints. */
    static OthersHours busy() {
        OthersHours x = Checks.with("0031;1032;2030;3044;5050;4051", "00001;10032;50001;55074;55081");
        x.home(2, 7);
        x.worth(1, 1, 8);
        x.sheet(0, 0, 4);
        x.sheet(1, 0, 60);
        x.sheet(2, 2, 1);
        x.lay(0, 0, 1, 9);
        x.lay(1, 0, 59, 77);
        x.lay(2, 2, 0, -3);
        x.seen(0, 0, 1);
        x.seen(0, 1, 0);
        x.sheet(0, 0, -1);
        return x;
    }

    /** One in which no byte and nothing seen has room; its grants are well, twenty of them. */
    static OthersHours full() {
        OthersHours x = Checks.with(grants(20), orders(16) + ";000");
        for (int i = 0; i < 8; i++) {
            x.seen(i % 6, i, i % 5);
        }
        x.sheet(0, 1, 60);
        x.lay(0, 1, 59, 300);
        x.sheet(0, 0, -1);
        return x;
    }

    /** So many grants, 24 at most: of body 0, from hour 0 on, to 1. */
    static String grants(int many) {
        StringBuilder text = new StringBuilder();
        for (int hour = 0; hour < many; hour++) {
            text.append(hour == 0 ? "" : ";").append('0').append(figures(hour)).append('1');
        }
        return text.toString();
    }

    /** So many orders, 24 at most: 2 hides in its own body, from hour 0 on. */
    static String orders(int many) {
        StringBuilder text = new StringBuilder();
        for (int hour = 0; hour < many; hour++) {
            text.append(hour == 0 ? "" : ";").append("22").append(figures(hour)).append('4');
        }
        return text.toString();
    }

    /** Each body of a row is owned by the next one in an hour. */
    static String chain(int hour, int... bodies) {
        StringBuilder text = new StringBuilder();
        for (int i = 0; i + 1 < bodies.length; i++) {
            text.append(i == 0 ? "" : ";").append(bodies[i]).append(figures(hour)).append(bodies[i + 1]);
        }
        return text.toString();
    }

    static String figures(int hour) {
        return (hour < 10 ? "0" : "") + hour;
    }

    static OthersHours byLaw(int law, String grants, String orders) {
        OthersHours x = Checks.with(grants, orders);
        x.setLaw(law);
        return x;
    }
}
