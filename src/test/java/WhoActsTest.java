/** Promises 10 to 16: owns, acts, deep, free, holds, wronged, gentlest. */
public final class WhoActsTest {
    private static final int DAY = (1 << 24) - 1;
    private static final Checks CHECKS = new Checks("WhoActsTest");
    /** In hour 7: 0 by 1, 1 by 2, 2 by 3, 3 by 4, 4 by 5. In hour 8: 0 and 1 ring, 2 hangs on them, 3 by 4. */
    private static final String CHAIN = "0071;1072;2073;3074;4075;0081;1080;2081;3084";

    public static void main(String[] args) {
        owning();
        acting();
        depths();
        freeHours();
        holding();
        wrongs();
        gentlest();
        CHECKS.end();
    }

    private static void badCells(OthersHours x) {
        int[][] bad = {{-1, 0}, {6, 0}, {0, -1}, {0, 24}};
        for (int[] b : bad) {
            CHECKS.due("owns of none", x.owns(b[0], b[1]), -2);
            CHECKS.due("acts of none", x.acts(b[0], b[1]), -2);
            CHECKS.due("deep of none", x.deep(b[0], b[1]), -2);
        }
    }

    private static void owning() {
        OthersHours x = Checks.with("0230;5000;3113", "");
        badCells(x);
        CHECKS.due("owns(0, 23)", x.owns(0, 23), 0);
        CHECKS.due("owns(5, 0)", x.owns(5, 0), 0);
        CHECKS.due("owns(5, 1)", x.owns(5, 1), 5);
        CHECKS.due("owns(3, 11), told its own", x.owns(3, 11), 3);
        OthersHours chain = Checks.with(CHAIN, "");
        CHECKS.due("owns(0, 7)", chain.owns(0, 7), 1);
        chain.setLaw(2);
        CHECKS.due("owns(0, 8) whatever the law", chain.owns(0, 8), 1);
    }

    private static void actsInHour(int law, int hour, int... want) {
        OthersHours x = Checks.with(CHAIN, "");
        x.setLaw(law);
        for (int body = 0; body < 6; body++) {
            CHECKS.due("law " + law + ": acts(" + body + ", " + hour + ")", x.acts(body, hour), want[body]);
        }
    }

    private static void acting() {
        actsInHour(0, 7, 5, 5, 5, 5, 5, 5);
        actsInHour(1, 7, 1, 2, 3, 4, 5, 5);
        actsInHour(2, 7, 5, 5, 5, 5, 5, 5);
        actsInHour(0, 8, -1, -1, -1, 4, 4, 5);
        actsInHour(1, 8, 1, 0, 1, 4, 4, 5);
        actsInHour(2, 8, 0, 1, 2, 4, 4, 5);
        actsInHour(0, 9, 0, 1, 2, 3, 4, 5);
        OthersHours all = Checks.with("0001;1002;2003;3004;4005;5000", "");
        CHECKS.due("a ring of six: acts(3, 0)", all.acts(3, 0), -1);
        all.setLaw(2);
        CHECKS.due("a ring of six: acts(3, 0) by law 2", all.acts(3, 0), 3);
    }

    private static void depths() {
        for (int law = 0; law < 3; law++) {
            OthersHours x = Checks.with(CHAIN, "");
            x.setLaw(law);
            int[] seven = {5, 4, 3, 2, 1, 0};
            int[] eight = {-1, -1, -1, 1, 0, 0};
            for (int body = 0; body < 6; body++) {
                CHECKS.due("deep(" + body + ", 7)", x.deep(body, 7), seven[body]);
                CHECKS.due("deep(" + body + ", 8)", x.deep(body, 8), eight[body]);
                CHECKS.due("deep(" + body + ", 9)", x.deep(body, 9), 0);
            }
            CHECKS.due("count(7)", x.count(7), 3);
        }
        CHECKS.due("told its own: deep(3, 11)", Checks.with("3113", "").deep(3, 11), 0);
    }

    private static void freeHours() {
        OthersHours x = Checks.with(CHAIN, "");
        CHECKS.due("free(-1)", x.free(-1), -2);
        CHECKS.due("free(6)", x.free(6), -2);
        CHECKS.due("free(0)", x.free(0), DAY & ~Checks.bits(7, 8));
        CHECKS.due("free(3)", x.free(3), DAY & ~Checks.bits(7, 8));
        CHECKS.due("free(4)", x.free(4), DAY & ~Checks.bits(7));
        CHECKS.due("free(5)", x.free(5), DAY);
        x.setLaw(2);
        CHECKS.due("law 2: free(2)", x.free(2), DAY & ~Checks.bits(7));
        x.setLaw(1);
        CHECKS.due("law 1: free(2)", x.free(2), DAY & ~Checks.bits(7, 8));
        CHECKS.due("free at the day's ends", Checks.with("0001;0231", "").free(0), DAY & ~Checks.bits(0, 23));
    }

    private static void holding() {
        OthersHours x = Checks.with(CHAIN, "");
        CHECKS.due("holds(-1)", x.holds(-1), -2);
        CHECKS.due("holds(6)", x.holds(6), -2);
        int[][] want = {{22, 22, 22, 22, 24, 29}, {23, 25, 23, 23, 25, 25}, {23, 23, 23, 22, 24, 29}};
        for (int law = 0; law < 3; law++) {
            x.setLaw(law);
            for (int person = 0; person < 6; person++) {
                CHECKS.due("law " + law + ": holds(" + person + ")", x.holds(person), want[law][person]);
            }
        }
    }

    private static void wrongs() {
        OthersHours x = Checks.with(CHAIN, "");
        CHECKS.due("wronged(-1)", x.wronged(-1), -2);
        CHECKS.due("wronged(3)", x.wronged(3), -2);
        for (int law = 0; law < 3; law++) {
            x.setLaw(law);
            CHECKS.due("wronged(0)", x.wronged(0), 9);
            CHECKS.due("wronged(1)", x.wronged(1), 9);
            CHECKS.due("wronged(2)", x.wronged(2), 6);
        }
    }

    private static void gentlest() {
        CHECKS.due("none wronged: gentlest()", new OthersHours().gentlest(), 0);
        CHECKS.due("a ring: gentlest()", Checks.with(CHAIN, "").gentlest(), 2);
        OthersHours alike = Checks.with("0031;1042", "");
        alike.setLaw(2);
        CHECKS.due("all alike: gentlest()", alike.gentlest(), 0);
    }
}
