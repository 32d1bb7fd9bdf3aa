import java.util.Random;

/** Runs of many calls, the same ones each time, on the class and on the model. */
public final class AgainstModelTest {
    private static final Checks CHECKS = new Checks("AgainstModelTest");
    private static final int RUNS = 500;
    /** An object has 512 calls, and what is begun ahead of this one needs some hundred more at most. */
    private static final int LAST_BEGIN = 410;
    private static final int[] EDGES = {Integer.MIN_VALUE, -1, 0, 1, 5, 6, 23, 24, 59, 60, 61, Integer.MAX_VALUE};

    private final Random random;
    private final int run;
    private final OthersHours x = new OthersHours();
    private final Model m = new Model();
    private int calls;

    private AgainstModelTest(int run) {
        this.run = run;
        this.random = new Random(run);
    }

    public static void main(String[] args) {
        for (int run = 0; run < RUNS && CHECKS.wrong() == 0; run++) {
            new AgainstModelTest(run).go();
        }
        CHECKS.end();
    }

    private void go() {
        while (calls < LAST_BEGIN && CHECKS.wrong() == 0) {
            int dice = random.nextInt(100);
            if (dice < 4) {
                typeGrants();
            } else if (dice < 8) {
                typeOrders();
            } else if (dice < 10) {
                oneByte();
            } else if (dice < 15) {
                settings();
            } else if (dice < 20) {
                allWorths();
            } else if (dice < 75) {
                question(random.nextInt(24));
            } else {
                sheetCall(random.nextInt(8));
            }
        }
    }

    private void due(String call, long got, long want) {
        calls++;
        CHECKS.due("run " + run + ", grants " + m.texts[0] + ", orders " + m.texts[1] + ", law " + m.law + ": " + call,
            got, want);
    }

    /** Mostly a number below the end, now and then one at an edge. */
    private int below(int end) {
        return random.nextInt(40) == 0 ? EDGES[random.nextInt(EDGES.length)] : random.nextInt(end);
    }

    private void typeAll(int text, String bytes) {
        for (int i = 0; i < bytes.length(); i++) {
            due("type", x.type(text, bytes.charAt(i)), m.type(text, bytes.charAt(i)));
        }
        due("fault", x.fault(text), m.fault(text));
    }

    /** Few hours, so that grants meet in chains and rings. */
    private void typeGrants() {
        due("wipe(0)", x.wipe(0), m.wipe(0));
        int hours = 1 + random.nextInt(5);
        int first = random.nextInt(24);
        int all = random.nextInt(21);
        StringBuilder text = new StringBuilder();
        for (int g = 0; g < all; g++) {
            int hour = (first + random.nextInt(hours)) % 24;
            int body = random.nextInt(6);
            String cell = "" + body + hour / 10 + hour % 10;
            if ((";" + text).contains(";" + cell) && random.nextInt(30) != 0) {
                continue;
            }
            text.append(text.length() == 0 ? "" : ";").append(cell).append(random.nextInt(6));
        }
        typeAll(0, text.toString());
    }

    private void typeOrders() {
        due("wipe(1)", x.wipe(1), m.wipe(1));
        int all = random.nextInt(17);
        int body = random.nextInt(6);
        int hour = random.nextInt(24);
        StringBuilder text = new StringBuilder();
        for (int o = 0; o < all; o++) {
            int person = random.nextInt(3) == 0 ? random.nextInt(6) : Math.max(0, m.acts(body, hour));
            text.append(o == 0 ? "" : ";").append(person).append(body).append(hour / 10).append(hour % 10);
            text.append(random.nextInt(5));
            hour = (hour + random.nextInt(3)) % 24;
            body = random.nextInt(4) == 0 ? random.nextInt(6) : body;
        }
        typeAll(1, text.toString());
    }

    private void oneByte() {
        int text = below(2);
        int kind = random.nextInt(4);
        if (kind == 0) {
            due("undo(" + text + ")", x.undo(text), m.undo(text));
        } else if (kind == 1) {
            int b = "0123456789;:/"
                .charAt(random.nextInt(13));
            due("type(" + text + ", " + b + ")", x.type(text, b), m.type(text, b));
        } else if (kind == 2) {
            int b = random.nextInt(262) - 3;
            due("type(" + text + ", " + b + ")", x.type(text, b), m.type(text, b));
        } else {
            due("wipe(" + text + ")", x.wipe(text), m.wipe(text));
        }
        due("fault(0)", x.fault(0), m.fault(0));
        due("fault(1)", x.fault(1), m.fault(1));
    }

    private void settings() {
        int v = below(3);
        due("setLaw(" + v + ")", x.setLaw(v), m.setLaw(v));
        int body = below(6);
        int place = below(10) % 4;
        due("home(" + body + ", " + place + ")", x.home(body, place), m.home(body, place));
        int worth = below(10);
        int hour = below(24);
        due("worth", x.worth(body, hour, worth), m.worth(body, hour, worth));
    }

    private void allWorths() {
        int person = random.nextInt(6);
        for (int i = 0; i < 8; i++) {
            int hour = random.nextInt(24);
            int v = random.nextInt(10);
            due("worth", x.worth(person, hour, v), m.worth(person, hour, v));
        }
    }

    private void question(int which) {
        int a = below(6);
        int b = below(6);
        int hour = below(24);
        int what = below(4);
        int n = random.nextInt(3) == 0 ? below(101) : 20 + random.nextInt(15);
        String of = " of " + a + ", " + b + ", " + hour + ", " + what + ", " + n;
        switch (which) {
            case 0 -> due("owns" + of, x.owns(a, hour), m.owns(a, hour));
            case 1 -> due("acts" + of, x.acts(a, hour), m.acts(a, hour));
            case 2 -> due("deep" + of, x.deep(a, hour), m.deep(a, hour));
            case 3 -> due("free" + of, x.free(a), m.free(a));
            case 4 -> due("holds" + of, x.holds(a), m.holds(a));
            case 5 -> due("wronged" + of, x.wronged(what), m.wronged(what));
            case 6 -> due("gentlest", x.gentlest(), m.gentlest());
            case 7 -> due("done" + of, x.done(n % 17), m.done(n % 17));
            case 8 -> due("judged", x.judged(), m.judged());
            case 9 -> due("body" + of, x.body(a, hour, what), m.body(a, hour, what));
            case 10 -> due("met" + of, x.met(a, b), m.met(a, b));
            case 11 -> due("slips" + of, x.slips(a, b), m.slips(a, b));
            case 12 -> due("soonest" + of, x.soonest(a, n), m.soonest(a, n));
            case 13 -> due("fewest" + of, x.fewest(a, n, what), m.fewest(a, n, what));
            case 14 -> due("run" + of, x.run(a, what), m.run(a, what));
            case 15 -> tradeOfGrants(a, hour, b, below(24));
            case 16 -> due("trades", x.trades(), m.trades());
            case 17 -> due("frees" + of, x.frees(n % 20), m.frees(n % 20));
            case 18 -> due("word", x.word(), m.word());
            case 19 -> due("heir" + of, x.heir(a, b), m.heir(a, b));
            case 20 -> seenCalls(a, hour);
            case 21 -> due("count" + of, x.count(n % 10), m.count(n % 10));
            case 22 -> digestNowAndThen();
            default -> flights();
        }
    }

    /** The model takes long for it. */
    private void digestNowAndThen() {
        if (random.nextInt(6) == 0) {
            due("digest", x.digest(), m.digest());
        }
    }

    private void tradeOfGrants(int a, int hour, int b, int other) {
        due("trade", x.trade(a, hour, b, other), m.trade(a, hour, b, other));
    }

    private void seenCalls(int body, int hour) {
        if (random.nextInt(5) == 0) {
            due("forget", x.forget(), m.forget());
        }
        int deed = random.nextInt(4) == 0 ? below(5) : Math.max(0, m.body(body, hour, 0));
        due("seen", x.seen(body, hour, deed), m.seen(body, hour, deed));
        due("suspects", x.suspects(), m.suspects());
        due("likely", x.likely(), m.likely());
    }

    private void flights() {
        for (int person = 0; person < 6; person++) {
            due("run(" + person + ", 2)", x.run(person, 2), m.run(person, 2));
            due("run(" + person + ", 3)", x.run(person, 3), m.run(person, 3));
        }
    }

    private void sheetCall(int which) {
        int s = below(4);
        int t = below(4);
        int form = random.nextInt(3) == 0 ? below(3) : s >= 0 && s < 4 ? m.forms[s] : 0;
        int i = below(8);
        int j = below(8);
        int n = random.nextInt(6) == 0 ? below(61) : below(9);
        int v = random.nextInt(3) == 0 ? random.nextInt() : below(12);
        String of = " of " + s + ", " + t + ", " + form + ", " + i + ", " + j + ", " + n + ", " + v;
        switch (which) {
            case 0 -> due("sheet" + of, x.sheet(s, form, n - (n == 8 ? 9 : 0)), m.sheet(s, form, n - (n == 8 ? 9 : 0)));
            case 1 -> due("lose" + of, random.nextInt(4) == 0 ? x.lose(t) - m.lose(t) : 0, 0);
            case 2, 3 -> due("lay" + of, x.lay(s, form, i, v), m.lay(s, form, i, v));
            case 4 -> due("get" + of, x.get(s, form, i), m.get(s, form, i));
            case 5 -> due("copy" + of, x.copy(s, i, t, j, n), m.copy(s, i, t, j, n));
            case 6 -> due("write" + of, x.write(i, s), m.write(i, s));
            default -> due("read" + of, x.read(s, i), m.read(s, i));
        }
        due("count(8)", x.count(8), m.count(8));
        due("get" + of, x.get(s, form, j), m.get(s, form, j));
    }
}
