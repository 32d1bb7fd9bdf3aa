/** Promises 34 to 40: sheet, lose, lay, get, copy, write, count. */
public final class SheetsTest {
    private static final int LEAST = Integer.MIN_VALUE;
    private static final int MOST = Integer.MAX_VALUE;
    private static final Checks CHECKS = new Checks("SheetsTest");

    public static void main(String[] args) {
        making();
        losing();
        laying();
        getting();
        copying();
        copyRefusals();
        writing();
        counting();
        CHECKS.end();
    }

    private static void making() {
        OthersHours x = new OthersHours();
        int[][] bad = {{-1, 0, 1}, {4, 0, 1}, {0, -1, 1}, {0, 3, 1}, {0, 0, 61}, {0, 0, MOST}, {4, 0, -1}, {0, 3, -1}};
        for (int[] b : bad) {
            CHECKS.due("sheet of none", x.sheet(b[0], b[1], b[2]), -2);
        }
        CHECKS.due("count(8)", x.count(8), 0);
        CHECKS.due("sheet(0, 0, -1)", x.sheet(0, 0, -1), -15);
        CHECKS.due("count(8) then", x.count(8), 5);
        CHECKS.due("it is lost still", x.lose(0), -11);
        CHECKS.due("sheet(3, 2, 60)", x.sheet(3, 2, 60), 60);
        for (int i = 0; i < 60; i++) {
            CHECKS.due("get of a new one", x.get(3, 2, i), 0);
        }
        x.lay(3, 2, 0, 7);
        x.lay(3, 2, 59, 8);
        CHECKS.due("sheet(3, 2, least)", x.sheet(3, 2, LEAST), -15);
        CHECKS.due("sheet(3, 2, 61)", x.sheet(3, 2, 61), -2);
        CHECKS.due("a refusal leaves it", x.get(3, 2, 59), 8);
        CHECKS.due("sheet(3, 1, 1)", x.sheet(3, 1, 1), 1);
        CHECKS.due("a new row has 0", x.get(3, 1, 0), 0);
        CHECKS.due("a new row has its form", x.get(3, 2, 0), LEAST);
        CHECKS.due("sheet(3, 1, 60)", x.sheet(3, 1, 60), 60);
        CHECKS.due("a longer row has 0", x.get(3, 1, 59), 0);
        CHECKS.due("sheet(2, 0, 0)", x.sheet(2, 0, 0), 0);
        CHECKS.due("it's not lost", x.lose(2), 0);
    }

    private static void losing() {
        OthersHours x = new OthersHours();
        CHECKS.due("lose(-1)", x.lose(-1), -2);
        CHECKS.due("lose(4)", x.lose(4), -2);
        CHECKS.due("count(8)", x.count(8), 0);
        CHECKS.due("lose(0)", x.lose(0), -11);
        CHECKS.due("count(8) then", x.count(8), 1);
        x.sheet(0, 1, 42);
        x.sheet(1, 1, 3);
        CHECKS.due("lose(0) of 42", x.lose(0), 42);
        CHECKS.due("lose(0) again", x.lose(0), -11);
        CHECKS.due("lay(0, ..) then", x.lay(0, 1, 0, 0), -11);
        CHECKS.due("the other is there", x.lose(1), 3);
    }

    private static void laying() {
        OthersHours x = new OthersHours();
        CHECKS.due("lay(-1, ..)", x.lay(-1, 0, 0, 0), -2);
        CHECKS.due("lay(4, ..)", x.lay(4, 0, 0, 0), -2);
        CHECKS.due("lay(0, -1, ..)", x.lay(0, -1, 0, 0), -2);
        CHECKS.due("lay(0, 3, ..)", x.lay(0, 3, 0, 0), -2);
        CHECKS.due("count(8)", x.count(8), 0);
        CHECKS.due("lay of a lost one", x.lay(0, 0, -1, 0), -11);
        x.sheet(0, 0, 5);
        CHECKS.due("lay with another form", x.lay(0, 1, 99, 0), -13);
        CHECKS.due("count(8) of that", x.count(8), 3);
        CHECKS.due("lay(0, 0, -1, 0)", x.lay(0, 0, -1, 0), -12);
        CHECKS.due("lay(0, 0, 5, 0)", x.lay(0, 0, 5, 0), -12);
        CHECKS.due("lay(0, 0, most, 0)", x.lay(0, 0, MOST, 0), -12);
        CHECKS.due("count(8) of that", x.count(8), 2);
        x.sheet(1, 1, 5);
        x.sheet(2, 2, 5);
        int[] vs = {0, 127, 128, 255, 256, -1, -128, -129, 32767, 32768, 65535, 65536, -32769, MOST, LEAST};
        for (int v : vs) {
            for (int form = 0; form < 3; form++) {
                CHECKS.due("lay(" + form + ", .., " + v + ")", x.lay(form, form, 4, v), 1);
            }
            CHECKS.due("a byte of " + v, x.get(0, 0, 4), (byte) v);
            CHECKS.due("a short of " + v, x.get(1, 1, 4), (short) v);
            CHECKS.due("an int of " + v, x.get(2, 2, 4), v);
        }
        CHECKS.due("the others stay", x.get(0, 0, 3), 0);
    }

    private static void getOf(OthersHours x, int s, int form, int i, int finding) {
        x.sheet(3, 0, -1);
        CHECKS.due("get(" + s + ", " + form + ", " + i + ")", x.get(s, form, i), LEAST);
        CHECKS.due("count(8) of that", x.count(8), finding);
    }

    private static void getting() {
        OthersHours x = new OthersHours();
        x.sheet(0, 1, 3);
        x.lay(0, 1, 2, -5);
        CHECKS.due("get(0, 1, 2)", x.get(0, 1, 2), -5);
        CHECKS.due("count(8)", x.count(8), 0);
        // 5 is the finding from just ahead, which a BAD leaves
        getOf(x, -1, 1, 2, 5);
        getOf(x, 4, 1, 2, 5);
        getOf(x, 0, -1, 2, 5);
        getOf(x, 0, 3, 2, 5);
        getOf(x, 1, 0, 99, 1);
        getOf(x, 0, 0, 99, 3);
        getOf(x, 0, 2, 0, 3);
        getOf(x, 0, 1, 3, 2);
        getOf(x, 0, 1, -1, 2);
        CHECKS.due("get(0, 1, 0)", x.get(0, 1, 0), 0);
        CHECKS.due("count(8) stays", x.count(8), 2);
    }

    private static OthersHours rows() {
        OthersHours x = new OthersHours();
        x.sheet(0, 0, 6);
        x.sheet(1, 0, 4);
        x.sheet(2, 1, 4);
        for (int i = 0; i < 6; i++) {
            x.lay(0, 0, i, i + 1);
        }
        return x;
    }

    private static void rowIs(OthersHours x, int s, int form, int... want) {
        for (int i = 0; i < want.length; i++) {
            CHECKS.due("item " + i + " of " + s, x.get(s, form, i), want[i]);
        }
    }

    private static void copying() {
        OthersHours x = rows();
        CHECKS.due("copy(0, 2, 1, 1, 3)", x.copy(0, 2, 1, 1, 3), 1);
        rowIs(x, 1, 0, 0, 3, 4, 5);
        rowIs(x, 0, 0, 1, 2, 3, 4, 5, 6);
        CHECKS.due("copy(0, 0, 0, 1, 5)", x.copy(0, 0, 0, 1, 5), 1);
        rowIs(x, 0, 0, 1, 1, 2, 3, 4, 5);
        CHECKS.due("copy(0, 2, 0, 0, 4)", x.copy(0, 2, 0, 0, 4), 1);
        rowIs(x, 0, 0, 2, 3, 4, 5, 4, 5);
        CHECKS.due("copy of none", x.copy(0, 6, 1, 4, 0), 1);
        CHECKS.due("copy of none", x.copy(0, 0, 1, 0, 0), 1);
        rowIs(x, 1, 0, 0, 3, 4, 5);
        CHECKS.due("copy of all", x.copy(1, 0, 0, 2, 4), 1);
        rowIs(x, 0, 0, 2, 3, 0, 3, 4, 5);
        CHECKS.due("no finding", x.count(8), 0);
    }

    private static void copyRefusals() {
        OthersHours x = rows();
        int[][] bad = {{-1, 0}, {4, 0}, {0, -1}, {0, 4}, {3, 4}, {4, 3}};
        for (int[] b : bad) {
            CHECKS.due("copy of no sheet", x.copy(b[0], 0, b[1], 0, 1), -2);
        }
        CHECKS.due("count(8)", x.count(8), 0);
        CHECKS.due("copy from a lost one", x.copy(3, 0, 2, 0, -1), -11);
        CHECKS.due("copy to a lost one", x.copy(0, 0, 3, 0, -1), -11);
        CHECKS.due("copy of unlike ones", x.copy(0, -1, 2, 0, 1), -14);
        CHECKS.due("count(8) of that", x.count(8), 4);
        int[][] index = {{-1, 0, 1}, {0, -1, 1}, {0, 0, -1}, {0, 0, 5}, {3, 0, 4}, {0, 1, 4}, {7, 0, 0}, {0, 5, 0},
            {1, 0, MOST}, {MOST, 0, 1}, {0, MOST, 1}, {MOST, MOST, MOST}, {0, LEAST, 1}, {LEAST, 0, 1}, {0, 0, LEAST}};
        for (int[] b : index) {
            CHECKS.due("copy(0, " + b[0] + ", 1, " + b[1] + ", " + b[2] + ")", x.copy(0, b[0], 1, b[1], b[2]), -12);
        }
        CHECKS.due("count(8) of that", x.count(8), 2);
        rowIs(x, 0, 0, 1, 2, 3, 4, 5, 6);
        rowIs(x, 1, 0, 0, 0, 0, 0);
    }

    private static void writing() {
        OthersHours x = Checks.with("0031;1030;0054;0231", "");
        CHECKS.due("write(-1, 0)", x.write(-1, 0), -2);
        CHECKS.due("write(6, 0)", x.write(6, 0), -2);
        CHECKS.due("write(0, -1)", x.write(0, -1), -2);
        CHECKS.due("write(0, 4)", x.write(0, 4), -2);
        CHECKS.due("count(8)", x.count(8), 0);
        CHECKS.due("write to a lost one", x.write(0, 0), -11);
        for (int form = 0; form < 3; form++) {
            x.sheet(form, form, 60);
            x.lay(form, form, 24, 9);
            CHECKS.due("write(0, " + form + ")", x.write(0, form), 24);
            for (int hour = 0; hour < 24; hour++) {
                CHECKS.due("it wrote who acts in " + hour, x.get(form, form, hour), x.acts(0, hour));
            }
            rowIs(x, form, form, 0, 0, 0, -1, 0, 4);
            CHECKS.due("it wrote no more", x.get(form, form, 24), 9);
        }
        x.sheet(3, 2, 4);
        x.setLaw(1);
        CHECKS.due("write(1, 3)", x.write(1, 3), 4);
        rowIs(x, 3, 2, 1, 1, 1, 0);
        x.sheet(3, 2, 0);
        CHECKS.due("write(1, 3) of none", x.write(1, 3), 0);
    }

    private static void counting() {
        OthersHours x = Checks.with("0031;1030;2054", "00001;22052;00002;42052");
        x.setLaw(2);
        x.seen(0, 0, 0);
        x.seen(0, 0, 0);
        x.lose(2);
        int[] want = {3, 4, 14, 23, 2, 2, 2, 2, 1};
        for (int what = 0; what < 9; what++) {
            CHECKS.due("count(" + what + ")", x.count(what), want[what]);
        }
        CHECKS.due("count(-1)", x.count(-1), -2);
        CHECKS.due("count(9)", x.count(9), -2);
        CHECKS.due("count(8) stays", x.count(8), 1);
    }
}
