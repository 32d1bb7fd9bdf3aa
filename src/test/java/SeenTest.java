/** Promises 30 to 33: seen, forget, suspects, likely. */
public final class SeenTest {
    private static final Checks CHECKS = new Checks("SeenTest");

    public static void main(String[] args) {
        seeing();
        suspecting();
        likely();
        likelyTired();
        CHECKS.end();
    }

    private static void seeing() {
        OthersHours x = new OthersHours();
        int[][] bad = {{-1, 0, 0}, {6, 0, 0}, {0, -1, 0}, {0, 24, 0}, {0, 0, -1}, {0, 0, 5}};
        for (int[] b : bad) {
            CHECKS.due("seen of none", x.seen(b[0], b[1], b[2]), -2);
        }
        CHECKS.due("count(5) of none", x.count(5), 0);
        for (int i = 1; i <= 8; i++) {
            CHECKS.due("seen(5, 23, 4)", x.seen(5, 23, 4), i);
            CHECKS.due("count(5)", x.count(5), i);
        }
        CHECKS.due("seen when eight are", x.seen(0, 0, 0), -4);
        CHECKS.due("seen of none when eight are", x.seen(6, 0, 0), -2);
        CHECKS.due("suspects()", x.suspects(), 32);
        CHECKS.due("forget()", x.forget(), 8);
        CHECKS.due("forget() again", x.forget(), 0);
        CHECKS.due("count(5) forgotten", x.count(5), 0);
        CHECKS.due("suspects() forgotten", x.suspects(), 63);
        CHECKS.due("seen(0, 0, 0)", x.seen(0, 0, 0), 1);
        CHECKS.due("suspects() of that", x.suspects(), 1);
    }

    private static void suspecting() {
        OthersHours x = Checks.with("0031;1032;0041;1040", "");
        CHECKS.due("suspects() of nothing", x.suspects(), 63);
        x.seen(0, 3, 1);
        CHECKS.due("suspects(), whatever the deed", x.suspects(), 4);
        x.seen(1, 3, 2);
        CHECKS.due("suspects() of both", x.suspects(), 4);
        x.setLaw(1);
        CHECKS.due("law 1: suspects()", x.suspects(), 0);
        x.setLaw(0);
        x.seen(0, 4, 0);
        CHECKS.due("where nobody acts: suspects()", x.suspects(), 0);
        x.forget();
        x.seen(0, 4, 0);
        CHECKS.due("where nobody acts: suspects()", x.suspects(), 0);
        x.setLaw(2);
        CHECKS.due("law 2: suspects()", x.suspects(), 1);
        x.setLaw(1);
        CHECKS.due("law 1: suspects()", x.suspects(), 2);
        x.seen(1, 9, 0);
        CHECKS.due("law 1: suspects() of both", x.suspects(), 2);
        x.undo(0);
        CHECKS.due("a grant undone: suspects()", x.suspects(), 2);
        x.wipe(0);
        CHECKS.due("all undone: suspects()", x.suspects(), 0);
    }

    /** (0, 3) is 2's by laws 0 and 2, 1's by law 1; (0, 4) nobody's, 1's, 0's. */
    private static void likely() {
        OthersHours x = Checks.with("0031;1032;0041;1040", "20031;10032;00043;10044");
        CHECKS.due("likely() of nothing", x.likely(), 7);
        x.seen(0, 3, 1);
        CHECKS.due("likely() of work in 3", x.likely(), 5);
        x.seen(0, 4, 3);
        CHECKS.due("likely() of walking down in 4", x.likely(), 4);
        x.setLaw(1);
        CHECKS.due("likely() whatever the law is", x.likely(), 4);
        x.forget();
        x.seen(0, 3, 2);
        CHECKS.due("likely() of walking up in 3", x.likely(), 2);
        x.seen(0, 4, 4);
        CHECKS.due("likely() and hiding in 4", x.likely(), 2);
        x.seen(0, 4, 0);
        CHECKS.due("likely() and resting in 4", x.likely(), 0);
        x.forget();
        x.seen(0, 4, 0);
        CHECKS.due("likely() of rest in 4", x.likely(), 1);
        x.seen(5, 4, 0);
        CHECKS.due("likely() of rest that none ordered", x.likely(), 1);
        x.wipe(1);
        CHECKS.due("likely() without orders", x.likely(), 7);
    }

    private static void likelyTired() {
        // by law 1 body 0 works in hour 0 too, and is too tired in hour 4
        OthersHours x = Checks.with("0001;1002", "10001;00011;00021;00031;00041;00051");
        x.seen(0, 5, 1);
        CHECKS.due("likely() of work in 5", x.likely(), 2);
        x.forget();
        x.seen(0, 4, 1);
        CHECKS.due("likely() of work in 4", x.likely(), 5);
        x.forget();
        x.seen(0, 4, 0);
        CHECKS.due("likely() of rest in 4", x.likely(), 2);
    }
}
