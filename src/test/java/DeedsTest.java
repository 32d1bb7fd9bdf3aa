/** Promises 17 to 21: done, judged, body, met, slips. */
public final class DeedsTest {
    private static final int DAY = (1 << 24) - 1;
    private static final int REST = 0, WORK = 1, UP = 2, DOWN = 3, HIDE = 4;
    private static final Checks CHECKS = new Checks("DeedsTest");

    public static void main(String[] args) {
        orders();
        ordersByLaw();
        weariness();
        places();
        bodyRefusals();
        meetings();
        slipping();
        CHECKS.end();
    }

    private static void dones(OthersHours x, int judged, int... want) {
        int all = 0;
        for (int order = 0; order < want.length; order++) {
            CHECKS.due("done(" + order + ")", x.done(order), want[order]);
            all += want[order];
        }
        CHECKS.due("done(-1)", x.done(-1), -2);
        CHECKS.due("done(" + want.length + ")", x.done(want.length), -2);
        CHECKS.due("count(4)", x.count(4), all);
        CHECKS.due("judged()", x.judged(), judged);
    }

    private static void orders() {
        dones(new OthersHours(), -1);
        dones(Checks.with("", "00001"), -1, 1);
        dones(Checks.with("", "01001"), 0, 0);
        // 0 works, a second order comes too late; a told rest keeps the next order out as well
        OthersHours x = Checks.with("", "00001;00002;11050;11051;22061");
        dones(x, 1, 1, 0, 1, 0, 1);
        CHECKS.due("body(0, 0, 0)", x.body(0, 0, 0), WORK);
        CHECKS.due("body(1, 5, 0)", x.body(1, 5, 0), REST);
        CHECKS.due("body(2, 6, 0)", x.body(2, 6, 0), WORK);
        // who doesn't act keeps nobody out
        OthersHours y = Checks.with("0031", "00031;10032;10033");
        dones(y, 0, 0, 1, 0);
        CHECKS.due("body(0, 3, 0)", y.body(0, 3, 0), UP);
        // in a ring nobody's order is done
        dones(Checks.with("0031;1030", "00031;10031;01031;11031"), 0, 0, 0, 0, 0);
    }

    private static void ordersByLaw() {
        OthersHours x = Checks.with("0031;1032;2040;0042", "10031;20032;00041;20044");
        dones(x, 0, 0, 1, 0, 0);
        x.setLaw(1);
        dones(x, 1, 1, 0, 0, 1);
        CHECKS.due("law 1: body(0, 3, 0)", x.body(0, 3, 0), WORK);
        x.setLaw(2);
        dones(x, 0, 0, 1, 1, 0);
        CHECKS.due("law 2: body(0, 4, 0)", x.body(0, 4, 0), WORK);
        x.undo(0);
        dones(x, 0, 0, 1, 1, 0);
        x.undo(1);
        dones(x, 0, 0, 1, 1);
    }

    private static void hour(OthersHours x, int body, int hour, int deed, int place, int tired) {
        CHECKS.due("body(" + body + ", " + hour + ", 0)", x.body(body, hour, 0), deed);
        CHECKS.due("body(" + body + ", " + hour + ", 1)", x.body(body, hour, 1), place);
        CHECKS.due("body(" + body + ", " + hour + ", 2)", x.body(body, hour, 2), tired);
    }

    private static void weariness() {
        OthersHours x = Checks.with("", "00001;00011;00021;00031;00042;00054;00062;00071;00081;00100;00111;00123");
        hour(x, 0, 0, WORK, 0, 2);
        hour(x, 0, 1, WORK, 0, 4);
        hour(x, 0, 2, WORK, 0, 6);
        hour(x, 0, 3, WORK, 0, 8);
        hour(x, 0, 4, UP, 1, 9);
        hour(x, 0, 5, HIDE, 1, 9);
        hour(x, 0, 6, REST, 1, 6);
        hour(x, 0, 7, WORK, 1, 8);
        hour(x, 0, 8, REST, 1, 5);
        hour(x, 0, 9, REST, 1, 2);
        hour(x, 0, 10, REST, 1, 0);
        hour(x, 0, 11, WORK, 1, 2);
        hour(x, 0, 12, DOWN, 0, 3);
        hour(x, 0, 13, REST, 0, 0);
        hour(x, 0, 14, REST, 0, 0);
        CHECKS.due("what it's too tired for is DONE as an order", x.done(6), 1);
        CHECKS.due("all are DONE", x.judged(), -1);
        hour(x, 1, 4, REST, 0, 0);
    }

    private static void places() {
        OthersHours x = Checks.with("", "33002;33012;33022;33033;44003;44012;55232");
        x.home(3, 8);
        hour(x, 3, 0, UP, 9, 1);
        hour(x, 3, 1, UP, 9, 2);
        hour(x, 3, 2, UP, 9, 3);
        hour(x, 3, 3, DOWN, 8, 4);
        hour(x, 3, 23, REST, 8, 0);
        hour(x, 4, 0, DOWN, 0, 1);
        hour(x, 4, 1, UP, 1, 2);
        hour(x, 5, 22, REST, 0, 0);
        hour(x, 5, 23, UP, 1, 1);
    }

    private static void bodyRefusals() {
        OthersHours x = new OthersHours();
        CHECKS.due("body(-1, 0, 0)", x.body(-1, 0, 0), -2);
        CHECKS.due("body(6, 0, 0)", x.body(6, 0, 0), -2);
        CHECKS.due("body(0, -1, 0)", x.body(0, -1, 0), -2);
        CHECKS.due("body(0, 24, 0)", x.body(0, 24, 0), -2);
        CHECKS.due("body(0, 0, -1)", x.body(0, 0, -1), -2);
        CHECKS.due("body(0, 0, 3)", x.body(0, 0, 3), -2);
    }

    private static void twoOnly(String call, int self, int low, int high, int lowOther, int highOther) {
        CHECKS.due(call + " with itself", self, -2);
        CHECKS.due(call + "(-1, 0)", low, -2);
        CHECKS.due(call + "(6, 0)", high, -2);
        CHECKS.due(call + "(0, -1)", lowOther, -2);
        CHECKS.due(call + "(0, 6)", highOther, -2);
    }

    private static void meetings() {
        OthersHours x = Checks.with("", "00002;00052;11082;11092;11203");
        twoOnly("met", x.met(3, 3), x.met(-1, 0), x.met(6, 0), x.met(0, -1), x.met(0, 6));
        // 0 is at 1 from hour 0, at 2 from hour 5; 1 at 1 behind hour 8, at 2 from 9, at 1 from 20
        int want = 0;
        for (int hour = 9; hour < 20; hour++) {
            want |= 1 << hour;
        }
        CHECKS.due("met(0, 1)", x.met(0, 1), want);
        CHECKS.due("met(1, 0)", x.met(1, 0), want);
        CHECKS.due("met(1, 2)", x.met(1, 2), 0xff);
        CHECKS.due("met(2, 3)", x.met(2, 3), DAY);
        x.home(2, 1);
        CHECKS.due("met(0, 2)", x.met(0, 2), 0x1f);
    }

    private static void slipping() {
        OthersHours x = Checks.with("0031;2042;1051;2061;3005;4015;5225;4235;1100;0101;2112;1112", "");
        twoOnly("slips", x.slips(3, 3), x.slips(-1, 0), x.slips(6, 0), x.slips(0, -1), x.slips(0, 6));
        CHECKS.due("slips(0, 1): 1 in 0 at 3, in 1 at 4", x.slips(0, 1), Checks.bits(4));
        CHECKS.due("slips(1, 0): 1 in 1 at 2, in 0 at 3", x.slips(1, 0), Checks.bits(3));
        CHECKS.due("slips(1, 2): 1 in 1 at 5, in 2 at 6; 2 in 1 at 11, in 2 at 12", x.slips(1, 2), Checks.bits(6, 12));
        CHECKS.due("slips(3, 4): 5 in 3 at 0, in 4 at 1", x.slips(3, 4), Checks.bits(1));
        CHECKS.due("slips(5, 4): 5 in both", x.slips(5, 4), Checks.bits(1, 23));
        CHECKS.due("slips(4, 5)", x.slips(4, 5), Checks.bits(2));
        CHECKS.due("slips(2, 3)", x.slips(2, 3), 0);
        // nobody acts in rings, so nobody slips there
        OthersHours rings = Checks.with("0031;1030;0041;1040", "");
        CHECKS.due("rings: slips(0, 1)", rings.slips(0, 1), 0);
        rings.setLaw(1);
        CHECKS.due("rings: slips(0, 1) by law 1", rings.slips(0, 1), Checks.bits(3, 5));
    }
}
