/** Promises 22 to 29: soonest, fewest, run, trade, trades, frees, word, heir. */
public final class PlansTest {
    private static final Checks CHECKS = new Checks("PlansTest");

    public static void main(String[] args) {
        soonest();
        fewest();
        runs();
        flights();
        trade();
        trades();
        frees();
        heirs();
        CHECKS.end();
    }

    private static void soonest() {
        OthersHours x = Checks.with("1000;2000;3000;1010;0024;5040;0231", "");
        CHECKS.due("soonest(-1, 1)", x.soonest(-1, 1), -2);
        CHECKS.due("soonest(6, 1)", x.soonest(6, 1), -2);
        CHECKS.due("soonest(0, 0)", x.soonest(0, 0), -2);
        CHECKS.due("soonest(0, 100)", x.soonest(0, 100), -2);
        CHECKS.due("soonest(0, 99)", x.soonest(0, 99), -1);
        // of 0: four in hour 0, two in 1, none in 2, one in 3, two in 4, one each up to 22
        int[] want = {0, 0, 0, 0, 1, 1, 3, 4, 4, 5};
        for (int n = 1; n <= want.length; n++) {
            CHECKS.due("soonest(0, " + n + ")", x.soonest(0, n), want[n - 1]);
        }
        CHECKS.due("soonest(0, 27)", x.soonest(0, 27), 22);
        CHECKS.due("soonest(0, 28)", x.soonest(0, 28), -1);
        CHECKS.due("soonest(1, 22)", x.soonest(1, 22), 23);
        CHECKS.due("soonest(1, 23)", x.soonest(1, 23), 23);
        CHECKS.due("soonest(1, 24)", x.soonest(1, 24), -1);
    }

    private static void fewest() {
        OthersHours x = Checks.with("1000;2000;3000;1010;2010;3015;4020;4030;4040", "");
        CHECKS.due("fewest(-1, 1, 0)", x.fewest(-1, 1, 0), -2);
        CHECKS.due("fewest(6, 1, 0)", x.fewest(6, 1, 0), -2);
        CHECKS.due("fewest(0, 0, 0)", x.fewest(0, 0, 0), -2);
        CHECKS.due("fewest(0, 100, 0)", x.fewest(0, 100, 0), -2);
        CHECKS.due("fewest(0, 1, -1)", x.fewest(0, 1, -1), -2);
        CHECKS.due("fewest(0, 1, 2)", x.fewest(0, 1, 2), -2);
        // 0 has 24 hours of 0, 2 of 1, 2 of 2, 1 of 3, 3 of 4
        int[][] want = {{1, 1, 1}, {24, 1, 1}, {25, 2, 3}, {26, 2, 3}, {27, 2, 17}, {28, 3, 7}, {29, 3, 19},
            {30, 4, 23}, {31, 4, 23}, {32, 5, 31}, {33, -1, -1}, {99, -1, -1}};
        for (int[] w : want) {
            CHECKS.due("fewest(0, " + w[0] + ", 0)", x.fewest(0, w[0], 0), w[1]);
            CHECKS.due("fewest(0, " + w[0] + ", 1)", x.fewest(0, w[0], 1), w[2]);
        }
        OthersHours six = Checks.with("1000;2000;3000;4000;5000", "");
        CHECKS.due("fewest(0, 28, 1) of six", six.fewest(0, 28, 1), 31);
        CHECKS.due("fewest(0, 29, 1) of six", six.fewest(0, 29, 1), 63);
        CHECKS.due("fewest(0, 29, 0) of six", six.fewest(0, 29, 0), 6);
        CHECKS.due("fewest(0, 30, 0) of six", six.fewest(0, 30, 0), -1);
        // 5 has one hour of 3, and all of its own: one alone is the least bits if it's enough
        CHECKS.due("fewest(5, 1, 1)", x.fewest(5, 1, 1), 8);
        CHECKS.due("fewest(5, 2, 1)", x.fewest(5, 2, 1), 32);
        CHECKS.due("fewest(5, 25, 1)", x.fewest(5, 25, 1), 40);
    }

    private static void runIs(OthersHours x, int person, int many, int first, int manyFlown, int firstFlown) {
        CHECKS.due("run(" + person + ", 0)", x.run(person, 0), many);
        CHECKS.due("run(" + person + ", 1)", x.run(person, 1), first);
        CHECKS.due("run(" + person + ", 2)", x.run(person, 2), manyFlown);
        CHECKS.due("run(" + person + ", 3)", x.run(person, 3), firstFlown);
    }

    private static void runs() {
        OthersHours x = Checks.with("0081;0171;1050;1120;1180", "");
        CHECKS.due("run(-1, 0)", x.run(-1, 0), -2);
        CHECKS.due("run(6, 0)", x.run(6, 0), -2);
        CHECKS.due("run(0, -1)", x.run(0, -1), -2);
        CHECKS.due("run(0, 4)", x.run(0, 4), -2);
        // 0: hours 0 to 7, 9 to 16, 18 to 23: of like ones the first
        runIs(x, 0, 8, 0, 8, 0);
        // 1: 0 to 4, 6 to 11, 13 to 17, 19 to 23
        runIs(x, 1, 6, 6, 6, 6);
        runIs(x, 5, 24, 0, 24, 0);
        CHECKS.due("by law 2", runOfNobody(2), 24);
        CHECKS.due("by law 0", runOfNobody(0), 23);
        OthersHours end = Checks.with("0001;0011;0201", "");
        runIs(end, 0, 18, 2, 18, 2);
        OthersHours other = Checks.with("1000;0011;0021;1010", "");
        runIs(other, 0, 21, 3, 21, 3);
    }

    private static int runOfNobody(int law) {
        OthersHours x = Checks.with("0001;1000", "");
        x.setLaw(law);
        return x.run(0, 0);
    }

    /** By laws 0 and 2 who acts in any body acts in its own, so only by law 1 a flight can be shorter. */
    private static OthersHours fugitive(String grants, String orders) {
        OthersHours x = Checks.with(grants, orders);
        x.setLaw(1);
        return x;
    }

    private static void flights() {
        // 0 is out of its own body in 10 and 11, in 1 meanwhile
        String out = "0105;0115;1100;1110";
        OthersHours x = fugitive(out, "");
        runIs(x, 0, 24, 0, 24, 0);
        x.home(1, 3);
        runIs(x, 0, 24, 0, 12, 12);
        x.home(0, 3);
        runIs(x, 0, 24, 0, 24, 0);
        // body 1 walks up in hour 9: it's there behind 9, so 0 comes to it, and back behind 11
        OthersHours up = fugitive(out, "11092");
        up.home(0, 1);
        runIs(up, 0, 24, 0, 24, 0);
        // it walks up only in hour 10: behind 9 it's still elsewhere
        OthersHours late = fugitive(out, "01102");
        late.home(0, 1);
        runIs(late, 0, 24, 0, 14, 10);
        // it walks off in hour 11, so there's no way back; of two alike the first
        runIs(fugitive(out, "01112"), 0, 24, 0, 12, 0);
        // that order is not done, so it does not walk off
        runIs(fugitive(out, "11112"), 0, 24, 0, 24, 0);
        flightByWayOfTwo();
        flightOfFew();
    }

    private static void flightByWayOfTwo() {
        // of 0: its own 0 to 3, 1 in 4 and 5, 2 in 6 to 8, its own 8 to 22
        OthersHours x = fugitive("0045;0055;0065;0075;0235;1040;1050;2060;2070;2080", "");
        runIs(x, 0, 23, 0, 23, 0);
        x.home(2, 1);
        runIs(x, 0, 23, 0, 15, 8);
        // 1 comes to where 2 is behind 5, but from 2 none comes to 0
        Checks.type(x, 1, "01052");
        runIs(x, 0, 23, 0, 15, 8);
        // 0 lives where 2 does; 1 was there once, but not behind 3
        x.home(0, 1);
        Checks.type(x, 1, ";11022;11033");
        runIs(x, 0, 23, 0, 19, 4);
    }

    private static void flightOfFew() {
        OthersHours x = new OthersHours();
        // twenty grants are too few to take all hours of a body, so one always has some
        StringBuilder text = new StringBuilder();
        for (int hour = 0; hour < 20; hour++) {
            text.append(hour == 0 ? "" : ";").append("0").append(hour / 10).append(hour % 10).append("1");
        }
        Checks.type(x, 0, text.toString());
        runIs(x, 0, 4, 20, 4, 20);
        CHECKS.due("holds(0)", x.holds(0), 4);
    }

    private static void trade() {
        OthersHours x = Checks.with("0031;2050", "");
        int[][] bad = {{-1, 0, 0, 0}, {6, 0, 0, 0}, {0, -1, 0, 0}, {0, 24, 0, 0}, {0, 0, -1, 0}, {0, 0, 6, 0},
            {0, 0, 0, -1}, {0, 0, 0, 24}};
        for (int[] b : bad) {
            CHECKS.due("trade of none", x.trade(b[0], b[1], b[2], b[3]), -2);
        }
        CHECKS.due("trade(0, 3, 1, 9): 1 owns both", x.trade(0, 3, 1, 9), -3);
        CHECKS.due("trade(0, 3, 0, 3)", x.trade(0, 3, 0, 3), -3);
        CHECKS.due("trade(0, 3, 0, 4): 1's and 0's", x.trade(0, 3, 0, 4), 0);
        CHECKS.due("trade(0, 3, 2, 5): alike", x.trade(0, 3, 2, 5), 0);
        x.worth(1, 5, 1);
        CHECKS.due("trade(0, 3, 2, 5): only 1 gains", x.trade(0, 3, 2, 5), 0);
        x.worth(0, 3, 9);
        x.worth(0, 5, 9);
        CHECKS.due("trade(0, 3, 2, 5): 0 gains nothing", x.trade(0, 3, 2, 5), 0);
        x.worth(0, 5, 8);
        CHECKS.due("trade(0, 3, 2, 5)", x.trade(0, 3, 2, 5), 1);
        CHECKS.due("trade(2, 5, 0, 3)", x.trade(2, 5, 0, 3), 1);
        CHECKS.due("trade(0, 3, 0, 5): whatever the body", x.trade(0, 3, 0, 5), 1);
        x.worth(1, 3, 1);
        CHECKS.due("trade(0, 3, 2, 5): 1 gains nothing", x.trade(0, 3, 2, 5), 0);
    }

    /** Everyone likes every other hour more than those of its own that it is given to trade. */
    private static OthersHours eager(String grants, int persons) {
        OthersHours x = Checks.with(grants, "");
        for (int person = 0; person < persons; person++) {
            for (int hour = 0; hour < 24; hour++) {
                x.worth(person, hour, hour % persons == person ? 0 : 1);
            }
        }
        return x;
    }

    private static void trades() {
        CHECKS.due("trades() of none", new OthersHours().trades(), 0);
        CHECKS.due("trades() of alike", Checks.with("0031;2050;3041", "").trades(), 0);
        CHECKS.due("trades() of one", eager("0000", 2).trades(), 0);
        CHECKS.due("trades() of two", eager("0000;1011", 2).trades(), 1);
        CHECKS.due("trades() of two of one", eager("0000;1000", 2).trades(), 0);
        CHECKS.due("trades() of three", eager("0000;1011;2022", 3).trades(), 1);
        CHECKS.due("trades() of four", eager("0000;1011;2000;3011", 2).trades(), 2);
        CHECKS.due("trades() of five", eager("0000;1000;2000;3011;4000", 2).trades(), 1);
        String twelve = "0000;1000;2000;3000;4000;5000;0011;1011;2011;3011;4011;5011";
        CHECKS.due("trades() of twelve", eager(twelve, 2).trades(), 6);
        CHECKS.due("trades() of fourteen", eager(twelve + ";0020;0031", 2).trades(), 6);
        String late = "0000;0020;0040;0060;0080;0100;0120;0140;0160;0180;0200;0220;0011";
        CHECKS.due("trades(): the thirteenth is not asked", eager(late, 2).trades(), 0);
        String twelfth = "0000;0020;0040;0060;0080;0100;0120;0140;0160;0180;0200;0011";
        CHECKS.due("trades(): the twelfth is", eager(twelfth, 2).trades(), 1);
        pathNeedsThought();
    }

    /** A row of four, of which the first that comes to mind takes the two in the middle. */
    private static void pathNeedsThought() {
        OthersHours x = Checks.with("0000;0011;0022;0033", "");
        // 0 and 1, 0 and 2, 1 and 3 would trade: not 0 and 1 but the other two
        wants(x, 0, 1, 2);
        wants(x, 1, 0, 3);
        wants(x, 2, 0);
        wants(x, 3, 1);
        CHECKS.due("trades() of a row", x.trades(), 2);
        CHECKS.due("trade(0, 0, 0, 1)", x.trade(0, 0, 0, 1), 1);
        CHECKS.due("trade(0, 2, 0, 3)", x.trade(0, 2, 0, 3), 0);
        wants(x, 3, 0);
        CHECKS.due("trades() of a star", x.trades(), 1);
    }

    private static void wants(OthersHours x, int person, int... hours) {
        for (int hour = 0; hour < 24; hour++) {
            x.worth(person, hour, 0);
        }
        for (int hour : hours) {
            x.worth(person, hour, 1);
        }
    }

    private static void freesAre(String name, OthersHours x, int word, int... want) {
        for (int grant = 0; grant < want.length; grant++) {
            CHECKS.due(name + ": frees(" + grant + ")", x.frees(grant), want[grant]);
        }
        CHECKS.due(name + ": frees(-1)", x.frees(-1), -1002);
        CHECKS.due(name + ": frees(" + want.length + ")", x.frees(want.length), -1002);
        CHECKS.due(name + ": word()", x.word(), word);
    }

    private static void frees() {
        freesAre("none", new OthersHours(), -1);
        freesAre("its own", Checks.with("0000", ""), 0, 0);
        freesAre("of like ones the least", Checks.with("0000;0011;0022", ""), 1, 0, 1, 1);
        OthersHours ring = Checks.with("3034;0031;1032;2030", "");
        freesAre("law 0", ring, 0, 1, 1, 1, 1);
        ring.setLaw(1);
        freesAre("law 1", ring, 0, 1, 1, 1, 1);
        // by law 2 a ring wrongs none; broken, two of it are wronged
        ring.setLaw(2);
        freesAre("law 2", ring, 0, 1, -2, -2, -2);
        OthersHours rings = Checks.with("0031;1032;2030;3034;4033", "");
        rings.setLaw(2);
        freesAre("two rings", rings, 3, -2, -2, -2, -1, -1);
        CHECKS.due("nothing is changed by it", rings.owns(0, 3), 1);
        CHECKS.due("nothing is changed by it", rings.count(0), 5);
    }

    private static void heirs() {
        OthersHours x = Checks.with("0031;1032;2040;3040;4045;4051;0061;1060", "");
        CHECKS.due("heir(0, 0)", x.heir(0, 0), -2);
        CHECKS.due("heir(-1, 0)", x.heir(-1, 0), -2);
        CHECKS.due("heir(6, 0)", x.heir(6, 0), -2);
        CHECKS.due("heir(0, -1)", x.heir(0, -1), -2);
        CHECKS.due("heir(0, 6)", x.heir(0, 6), -2);
        // 5 gets 2 and 3 in hour 4 and 1 in hour 6, by which it also acts in 0; it had one more
        CHECKS.due("heir(0, 5)", x.heir(0, 5), 29);
        // 1 gets them: its own back in hour 6; it acts in 4 in hour 5 as before
        CHECKS.due("heir(0, 1)", x.heir(0, 1), 27);
        // 0 gets its own hours 3 and 6, and 4 in hour 5; in hour 6 it acts in 1 too
        CHECKS.due("heir(1, 0)", x.heir(1, 0), 28);
        CHECKS.due("holds(0), as it was", x.holds(0), 24);
        // 3 gives nothing
        CHECKS.due("heir(3, 0)", x.heir(3, 0), 24);
        x.setLaw(1);
        CHECKS.due("law 1: heir(0, 5)", x.heir(0, 5), 28);
        CHECKS.due("law 1: heir(2, 3)", x.heir(2, 3), 24);
        x.setLaw(2);
        CHECKS.due("law 2: heir(2, 1)", x.heir(2, 1), 26);
        CHECKS.due("the first cell of all", Checks.with("0001", "").heir(1, 2), 25);
        CHECKS.due("the last cell of all", Checks.with("5231", "").heir(1, 2), 25);
        // what one owns of its own body stays with it, told or not
        CHECKS.due("told its own", Checks.with("0000;0010;1020", "").heir(0, 2), 25);
    }
}
