/** Counts the answers that are not the ones due, and ends the test with exit code 1 if there was one. */
final class Checks {
    private static final int SHOWN = 40;
    private final String name;
    private int checked;
    private int wrong;

    Checks(String name) {
        this.name = name;
    }

    void due(String call, long got, long want) {
        checked++;
        if (got != want) {
            tell(call + " answered " + got + ", due is " + want);
        }
    }

    void holds(String what, boolean so) {
        checked++;
        if (!so) {
            tell(what);
        }
    }

    int wrong() {
        return wrong;
    }

    private void tell(String what) {
        wrong++;
        if (wrong <= SHOWN) {
            System.out.println(name + ": " + what);
        }
    }

    void end() {
        System.out.println(name + ": " + checked + " answers, " + wrong + " not as due");
        if (wrong != 0 || checked == 0) {
            System.exit(1);
        }
    }

    /** A new object with these grants and orders typed. */
    static OthersHours with(String grants, String orders) {
        OthersHours x = new OthersHours();
        type(x, 0, grants);
        type(x, 1, orders);
        return x;
    }

    static void type(OthersHours x, int text, String bytes) {
        for (int i = 0; i < bytes.length(); i++) {
            x.type(text, bytes.charAt(i));
        }
    }

    static int bits(int... places) {
        int all = 0;
        for (int place : places) {
            all |= 1 << place;
        }
        return all;
    }
}
