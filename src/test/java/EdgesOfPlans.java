/** Sentences of work done soonest, of the fewest bodies, of runs, flights and heirs; promises 22 to 24 and 29. */
final class EdgesOfPlans {
    private final Edges e;

    EdgesOfPlans(Edges e) {
        this.e = e;
    }

    void tell() {
        soonest();
        soonestCall();
        fewest();
        fewestNone();
        fewestCall();
        run();
        runOfFew();
        flight();
        flightOverDay();
        runCall();
        heir();
        heirByLaw();
        heirCall();
    }

    private void soonest() {
        e.terms("SOONEST: n (1 to 99) HOURS of work are to be done by a PERSON, by all BODIES it ACTS in");
        OthersHours x = Checks.with("1000;2000;3010;4230", "");
        int[][] want = {{1, 0}, {2, 0}, {3, 0}, {4, 1}, {5, 1}, {6, 2}, {26, 22}, {27, 23}, {28, 23},
            {29, -1}, {99, -1}};
        for (int[] w : want) {
            e.due("soonest(0, " + w[0] + ")", x.soonest(0, w[0]), w[1]);
        }
        e.due("none: soonest(0, 0)", x.soonest(0, 0), -2);
        e.due("too many: soonest(0, 100)", x.soonest(0, 100), -2);
        e.terms("(whatever was ordered, how tired they are aside),");
        OthersHours busy = Checks.with("", Edges.orders(16));
        OthersHours tired = Checks.with("", "22001;22011;22021;22031;22041;22051;22061;22071");
        for (int n : new int[] {1, 5, 8, 24}) {
            e.due("it hides: soonest(2, " + n + ")", busy.soonest(2, n), n - 1);
            e.due("it's tired: soonest(2, " + n + ")", tired.soonest(2, n), n - 1);
        }
        e.terms("from HOUR 0 on: the HOUR in which the last is done; NONE.");
        OthersHours most = Checks.with(Edges.grants(20), "");
        e.due("soonest(1, 1)", most.soonest(1, 1), 0);
        e.due("soonest(1, 2)", most.soonest(1, 2), 0);
        e.due("soonest(1, 40)", most.soonest(1, 40), 19);
        e.due("soonest(1, 43)", most.soonest(1, 43), 22);
        e.due("the most there can be: soonest(1, 44)", most.soonest(1, 44), 23);
        e.due("soonest(1, 45)", most.soonest(1, 45), -1);
        e.due("its first is hour 20: soonest(0, 1)", most.soonest(0, 1), 20);
        e.due("soonest(0, 4)", most.soonest(0, 4), 23);
        e.due("soonest(0, 5)", most.soonest(0, 5), -1);
        e.due("where nobody acts: soonest(0, 24)", Checks.with("0071;1070", "").soonest(0, 24), -1);
    }

    private void soonestCall() {
        e.promise(22, "SOONEST; NONE.");
        OthersHours x = Checks.with("5001", "");
        e.due("soonest(1, 2)", x.soonest(1, 2), 0);
        e.due("soonest(5, 23)", x.soonest(5, 23), 23);
        e.due("soonest(5, 24)", x.soonest(5, 24), -1);
        x.setLaw(1);
        e.due("by law 1: soonest(1, 25)", x.soonest(1, 25), 23);
        e.promise(22, "BAD.");
        e.range("soonest(person, 3)", 0, 5, (o, v) -> o.soonest(v, 3));
        e.range("soonest(0, n)", 1, 99, (o, v) -> o.soonest(0, v));
        e.range("soonest(5, n)", 1, 99, (o, v) -> o.soonest(5, v));
    }

    private void fewestIs(OthersHours x, int person, int n, int many, int bits) {
        e.due("fewest(" + person + ", " + n + ", 0)", x.fewest(person, n, 0), many);
        e.due("fewest(" + person + ", " + n + ", 1)", x.fewest(person, n, 1), bits);
    }

    private void fewest() {
        e.terms("FEWEST: the fewest BODIES by which it has n HOURS in all,");
        // 3 has 24 hours of its own, one each of 0, 1, 2, 4 and two of 5
        OthersHours x = Checks.with("0003;1003;2003;4003;5003;5013", "");
        fewestIs(x, 3, 3, 1, 8);
        fewestIs(x, 3, 24, 1, 8);
        fewestIs(x, 3, 26, 2, 8 + 32);
        fewestIs(x, 3, 28, 4, 1 + 2 + 8 + 32);
        fewestIs(x, 3, 29, 5, 1 + 2 + 4 + 8 + 32);
        fewestIs(x, 3, 30, 6, 63);
        e.terms("of like ones the least bits: how many; as bits;");
        fewestIs(x, 3, 1, 1, 1);
        fewestIs(x, 3, 2, 1, 8);
        fewestIs(x, 3, 25, 2, 1 + 8);
        fewestIs(x, 3, 27, 3, 1 + 8 + 32);
        OthersHours y = Checks.with("4001;4011;5001;5011;5021", "");
        fewestIs(y, 1, 2, 1, 2);
        fewestIs(y, 1, 26, 2, 2 + 16);
        fewestIs(y, 1, 27, 2, 2 + 32);
    }

    private void fewestNone() {
        e.terms("how many; as bits; NONE.");
        OthersHours most = Checks.with(Edges.grants(20), "");
        fewestIs(most, 1, 20, 1, 1);
        fewestIs(most, 1, 21, 1, 2);
        fewestIs(most, 1, 24, 1, 2);
        fewestIs(most, 1, 25, 2, 3);
        fewestIs(most, 1, 44, 2, 3);
        fewestIs(most, 1, 45, -1, -1);
        fewestIs(most, 1, 99, -1, -1);
        fewestIs(most, 0, 4, 1, 1);
        fewestIs(most, 0, 5, -1, -1);
        fewestIs(Checks.with("0071;1070", ""), 0, 24, -1, -1);
    }

    private void fewestCall() {
        e.promise(23, "FEWEST: how many (what = 0), as bits (1); NONE.");
        OthersHours x = Checks.with("0005", "");
        fewestIs(x, 5, 1, 1, 1);
        fewestIs(x, 5, 25, 2, 33);
        fewestIs(x, 5, 26, -1, -1);
        // in hour 7 0 acts in 1 by law 1 alone, in its own body by law 2 alone
        int[][] byLaw = {{-1, -1}, {2, 3}, {1, 1}};
        for (int law = 0; law < 3; law++) {
            fewestIs(Edges.byLaw(law, "0071;1070", ""), 0, 24, byLaw[law][0], byLaw[law][1]);
        }
        e.promise(23, "BAD.");
        for (int what = 0; what < 2; what++) {
            int asked = what;
            e.range("fewest(person, 3, " + what + ")", 0, 5, (o, v) -> o.fewest(v, 3, asked));
            e.range("fewest(3, n, " + what + ")", 1, 99, (o, v) -> o.fewest(3, v, asked));
        }
        e.range("fewest(3, 3, what)", 0, 1, (o, v) -> o.fewest(3, 3, v));
        e.due("what is looked at where none is enough: fewest(3, 99, 2)", x.fewest(3, 99, 2), -2);
    }

    private void rowIs(String name, OthersHours x, int person, int many, int first) {
        e.due(name + ": run(" + person + ", 0)", x.run(person, 0), many);
        e.due(name + ": run(" + person + ", 1)", x.run(person, 1), first);
    }

    private void flightIs(String name, OthersHours x, int person, int many, int first) {
        e.due(name + ": run(" + person + ", 2)", x.run(person, 2), many);
        e.due(name + ": run(" + person + ", 3)", x.run(person, 3), first);
    }

    private void run() {
        e.terms("RUN of a PERSON: the longest row of HOURS in each of which it ACTS in some BODY,");
        rowIs("the whole day", new OthersHours(), 5, 24, 0);
        rowIs("without the first hour", Checks.with("0001", ""), 0, 23, 1);
        rowIs("without the last hour", Checks.with("0231", ""), 0, 23, 0);
        rowIs("through another body", Edges.byLaw(1, "0071;1070", ""), 0, 24, 0);
        rowIs("through two others", Edges.byLaw(1, "0001;1000;0232;3230", ""), 0, 24, 0);
        rowIs("where nobody acts", Checks.with("0071;1070", ""), 0, 16, 8);
        e.terms("of like ones the first: how many; the first HOUR");
        // hours 0 to 7, 8 to 15 and 16 to 23 are alike, but for the one that each is without
        rowIs("seven, thrice", Checks.with("0071;0151;0231", ""), 0, 7, 0);
        rowIs("seven, thrice, later", Checks.with("0001;0081;0161", ""), 0, 7, 1);
        rowIs("the second is longer", Checks.with("0071;0161", ""), 0, 8, 8);
        rowIs("the last is longer", Checks.with("0071;0151", ""), 0, 8, 16);
        rowIs("not round the day", Checks.with("0021;0121", ""), 0, 11, 13);
        rowIs("not round the day, though longer", Checks.with("0041;0161;0211;0101", ""), 0, 5, 5);
    }

    /** Twenty grants leave four hours of its own body to each, so there is a row always. */
    private void runOfFew() {
        e.terms("the first HOUR (NONE: none).");
        StringBuilder gaps = new StringBuilder("0011");
        for (int hour = 2; hour < 24; hour++) {
            gaps.append(hour % 6 == 0 ? "" : ";0" + Edges.figures(hour) + "1");
        }
        for (int law = 0; law < 3; law++) {
            OthersHours four = Edges.byLaw(law, Edges.grants(20), "");
            rowIs("the last four", four, 0, 4, 20);
            flightIs("the last four", four, 0, 4, 20);
            OthersHours ones = Edges.byLaw(law, gaps.toString(), "");
            rowIs("four apart", ones, 0, 1, 0);
            flightIs("four apart", ones, 0, 1, 0);
            e.due("four apart: holds(0)", ones.holds(0), 4);
        }
    }

    private void flight() {
        e.terms("FLIGHT: likewise, but by one BODY in each HOUR, and from HOUR to HOUR that is the same one,");
        flightIs("the whole day", new OthersHours(), 5, 24, 0);
        flightIs("without the first hour", Checks.with("0001", ""), 0, 23, 1);
        flightIs("without the last hour", Checks.with("0231", ""), 0, 23, 0);
        flightIs("of like ones the first", Checks.with("0071;0151;0231", ""), 0, 7, 0);
        flightIs("not round the day", Checks.with("0041;0161;0211;0101", ""), 0, 5, 5);
        OthersHours walker = Checks.with("", "00002;00072;00232");
        flightIs("though it walks", walker, 0, 24, 0);
        OthersHours beside = Edges.byLaw(1, "1070;1080;0091", "");
        beside.home(1, 5);
        flightIs("in two bodies at once", beside, 0, 14, 10);
        e.terms("or one whose PLACE behind the HOUR ahead (by what is DONE) is the same.");
        // 0 is out of its own body in hour 7, and in 1 then
        String out = "0071;1070";
        flightIs("at one place", Edges.byLaw(1, out, ""), 0, 24, 0);
        OthersHours apart = Edges.byLaw(1, out, "");
        apart.home(1, 1);
        flightIs("at two places", apart, 0, 16, 8);
        rowIs("it's a run still", apart, 0, 24, 0);
        flightIs("1 leaves in hour 6", Edges.byLaw(1, out, "11062"), 0, 16, 8);
        flightIs("1 leaves in hour 7", Edges.byLaw(1, out, "01072"), 0, 16, 8);
        flightIs("1 leaves in hour 8", Edges.byLaw(1, out, "11082"), 0, 24, 0);
        flightIs("1 leaves in hour 7, which nobody does", Edges.byLaw(1, out, "11072"), 0, 24, 0);
        OthersHours comes = Edges.byLaw(1, out, "11062");
        comes.home(0, 1);
        flightIs("1 comes in hour 6", comes, 0, 24, 0);
        OthersHours late = Edges.byLaw(1, out, "01072");
        late.home(0, 1);
        flightIs("1 comes in hour 7", late, 0, 17, 7);
        OthersHours both = Edges.byLaw(1, out, "00062;11062");
        flightIs("both walk", both, 0, 24, 0);
    }

    private void flightOverDay() {
        // 0 is in 1 in hour 0 alone, in 2 in hour 23 alone
        OthersHours x = Edges.byLaw(1, "0001;1000;0231;2230", "");
        flightIs("from the first hour to the last", x, 0, 24, 0);
        x.home(1, 3);
        flightIs("not from the first hour", x, 0, 23, 1);
        x.home(2, 3);
        flightIs("nor to the last", x, 0, 22, 1);
        x.home(1, 0);
        flightIs("from the first, not to the last", x, 0, 23, 0);
        rowIs("it's a run still", x, 0, 24, 0);
    }

    private void runCall() {
        e.promise(24, "RUN: how many (what = 0), the first HOUR (1; NONE);");
        OthersHours x = Edges.byLaw(1, "0071;1070", "");
        x.home(1, 1);
        e.due("run(0, 0)", x.run(0, 0), 24);
        e.due("run(0, 1)", x.run(0, 1), 0);
        e.promise(24, "FLIGHT (2, 3).");
        e.due("run(0, 2)", x.run(0, 2), 16);
        e.due("run(0, 3)", x.run(0, 3), 8);
        e.due("asked again: run(0, 2)", x.run(0, 2), 16);
        e.due("of another: run(5, 2)", x.run(5, 2), 24);
        e.due("and again: run(0, 3)", x.run(0, 3), 8);
        e.promise(24, "BAD.");
        for (int what = 0; what < 4; what++) {
            int asked = what;
            e.range("run(person, " + what + ")", 0, 5, (o, v) -> o.run(v, asked));
        }
        e.range("run(0, what)", 0, 3, (o, v) -> o.run(0, v));
    }

    private void heir() {
        e.terms("HEIR: all that a PERSON OWNS of others' BODIES another one OWNS, in place of it:");
        e.due("nothing: heir(0, 1)", new OthersHours().heir(0, 1), 24);
        OthersHours ends = Checks.with("0001;5231", "");
        e.due("the first and the last of all: heir(1, 2)", ends.heir(1, 2), 26);
        e.due("what its own body is granted away stays: heir(0, 2)", ends.heir(0, 2), 24);
        e.due("its own hours stay, told or not: heir(3, 2)", Checks.with("3003;3013", "").heir(3, 2), 24);
        e.due("what it owns of the heir's body comes back: heir(1, 0)", ends.heir(1, 0), 25);
        e.due("the heir's own stay with it: heir(0, 1)", Checks.with("2001;3010", "").heir(0, 1), 26);
        e.due("a third one's are not told: heir(0, 1)", Checks.with("2005;3010", "").heir(0, 1), 25);
    }

    private void heirByLaw() {
        e.terms("in place of it: how many HOURS of all BODIES that one ACTS in then.");
        for (int law = 0; law < 3; law++) {
            OthersHours most = Edges.byLaw(law, Edges.grants(20), "");
            e.due("the most: heir(1, 5)", most.heir(1, 5), 44);
            e.due("all comes back: heir(1, 0)", most.heir(1, 0), 24);
            e.due("nothing is changed by it: holds(1)", most.holds(1), 44);
            e.due("nothing is changed by it: owns(0, 0)", most.owns(0, 0), 1);
        }
        // 0 is 1's, 1 is 2's: with 3 in place of 1 it acts in 0; with 0 in place of 2 they come round
        int[] third = {25, 25, 25};
        int[] round = {23, 24, 24};
        for (int law = 0; law < 3; law++) {
            OthersHours x = Edges.byLaw(law, "0071;1072", "");
            e.due("law " + law + ": heir(1, 3)", x.heir(1, 3), third[law]);
            e.due("law " + law + ": heir(2, 0)", x.heir(2, 0), round[law]);
        }
        int[] through = {26, 25, 26};
        for (int law = 0; law < 3; law++) {
            OthersHours x = Edges.byLaw(law, "0071;1072", "");
            e.due("law " + law + ", through another: heir(2, 3)", x.heir(2, 3), through[law]);
        }
    }

    private void heirCall() {
        e.promise(29, "HEIR.");
        OthersHours x = Checks.with("0031", "");
        e.due("heir(1, 5)", x.heir(1, 5), 25);
        e.due("heir(5, 1)", x.heir(5, 1), 25);
        e.due("heir(5, 0)", x.heir(5, 0), 23);
        e.promise(29, "BAD: also of itself.");
        e.range("heir(from, 2)", 0, 5, (o, v) -> o.heir(v, 2));
        e.range("heir(2, to)", 0, 5, (o, v) -> o.heir(2, v));
        for (int person = -1; person <= 6; person++) {
            int same = person;
            e.refused("heir(" + person + ", " + person + ")", Edges::busy, o -> o.heir(same, same), -2, Edges.FOUND);
        }
    }
}
