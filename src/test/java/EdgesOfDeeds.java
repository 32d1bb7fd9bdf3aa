/** Sentences of orders that are done, of places and weariness, of meetings and slips; promises 17 to 21. */
final class EdgesOfDeeds {
    private static final int REST = 0, WORK = 1, UP = 2, DOWN = 3, HIDE = 4;
    /** In hour 7 of body 0 nobody acts by law 0, 1 by law 1, 0 by law 2; 1 orders it to hide, 0 to walk up. */
    private static final String RING = "0071;1070", RING_ORDERS = "10074;00072";
    private final Edges e;

    EdgesOfDeeds(Edges e) {
        this.e = e;
    }

    void tell() {
        done();
        judged();
        untoldRest();
        places();
        tiredAtFirst();
        tiredMore();
        tooTired();
        met();
        slips();
        doneCall();
        bodyCall();
        metCall();
        slipsCall();
    }

    /** Orders of 0 to its own body, one an hour from hour 0 on. */
    private static String deeds(int... deeds) {
        StringBuilder text = new StringBuilder();
        for (int hour = 0; hour < deeds.length; hour++) {
            text.append(hour == 0 ? "" : ";").append("00").append(Edges.figures(hour)).append(deeds[hour]);
        }
        return text.toString();
    }

    private void donesAre(String name, OthersHours x, int... want) {
        int all = 0;
        for (int order = 0; order < want.length; order++) {
            e.due(name + ": done(" + order + ")", x.done(order), want[order]);
            all += want[order];
        }
        e.due(name + ": count(4)", x.count(4), all);
    }

    private void bodyIs(String name, OthersHours x, int hour, int deed, int place, int tired) {
        e.due(name + ": body(0, " + hour + ", 0)", x.body(0, hour, 0), deed);
        e.due(name + ": body(0, " + hour + ", 1)", x.body(0, hour, 1), place);
        e.due(name + ": body(0, " + hour + ", 2)", x.body(0, hour, 2), tired);
    }

    private void done() {
        e.terms("An ORDER is DONE, if that PERSON ACTS in that BODY in that HOUR,");
        donesAre("its own body", Checks.with("", "00001;55231;01001;10001"), 1, 1, 0, 0);
        donesAre("through another", Checks.with("0071;1072", "20071;10071;00071;21071"), 1, 0, 0, 1);
        donesAre("by law 1", Edges.byLaw(1, "0071;1072", "20071;10071;00071;21071"), 0, 1, 0, 1);
        donesAre("where nobody acts", Checks.with("0071;1070", "00071;10071;01071;11071"), 0, 0, 0, 0);
        donesAre("a ring by law 2", Edges.byLaw(2, "0071;1070", "00071;10071;01071;11071"), 1, 0, 0, 1);
        donesAre("the hours beside", Checks.with("0071", "00061;00071;00081;10061;10071;10081"), 1, 0, 1, 0, 1, 0);
        e.terms("and no ORDER told ahead is DONE in that BODY and HOUR;");
        donesAre("one behind another", Checks.with("", "00071;00072;00071"), 1, 0, 0);
        donesAre("a rest counts too", Checks.with("", "00070;00071"), 1, 0);
        donesAre("the one ahead is not done", Checks.with("", "10071;00072;00073"), 0, 1, 0);
        donesAre("another body, another hour", Checks.with("1070", "00071;01071;00081;00061"), 1, 1, 1, 1);
        donesAre("told far ahead", Checks.with("", Edges.orders(15) + ";22001"),
            1, 1, 1, 1, 1, 1, 1, 1, 1, 1, 1, 1, 1, 1, 1, 0);
        e.due("the first is the one that's done", Checks.with("", "00072;00073").body(0, 7, 0), UP);
    }

    private void judged() {
        e.terms("JUDGED: the first that is not; NONE.");
        e.due("no orders", new OthersHours().judged(), -1);
        e.due("all are done", Checks.with("", Edges.orders(16)).judged(), -1);
        e.due("the first of all", Checks.with("", "10001;00001").judged(), 0);
        e.due("two are not", Checks.with("", "00001;10001;00002").judged(), 1);
        e.due("the last of sixteen", Checks.with("", Edges.orders(15) + ";01001").judged(), 15);
        e.due("faulty ones", Checks.with("", "10001;").judged(), -1);
        e.promise(18, "JUDGED; NONE.");
        e.due("judged()", Checks.with("", "00001;10001").judged(), 1);
        e.due("judged() of one done", Checks.with("", "00001").judged(), -1);
        OthersHours x = Checks.with("0071;1072", "10071");
        e.due("by law 0", x.judged(), 0);
        x.setLaw(1);
        e.due("by law 1", x.judged(), -1);
    }

    private void untoldRest() {
        e.terms("In an HOUR in which no ORDER is DONE the BODY rests.");
        for (int hour : new int[] {0, 5, 23}) {
            bodyIs("no orders", new OthersHours(), hour, REST, 0, 0);
        }
        OthersHours x = Checks.with("", "00001;10011;00024;10234");
        bodyIs("ordered by another", x, 1, REST, 0, 0);
        bodyIs("behind the last", x, 3, REST, 0, 0);
        bodyIs("ordered by another, at last", x, 23, REST, 0, 0);
        bodyIs("nobody acts", Checks.with("0001;1000", "00001;10001"), 0, REST, 0, 0);
        bodyIs("it rests indeed", Checks.with("", "00001;00011;10021"), 2, REST, 0, 1);
    }

    private void placesFrom(int home, int deed, int first, int second) {
        OthersHours x = Checks.with("", deeds(deed, deed));
        x.home(0, home);
        bodyIs("from " + home, x, 0, deed, first, 1);
        bodyIs("from " + home, x, 1, deed, second, 2);
        e.due("from " + home + ", it stays there", x.body(0, 23, 1), second);
    }

    private void places() {
        e.terms("walking up it comes to the next one (9 at most), down to the one ahead (0 at least).");
        placesFrom(0, UP, 1, 2);
        placesFrom(7, UP, 8, 9);
        placesFrom(8, UP, 9, 9);
        placesFrom(9, UP, 9, 9);
        placesFrom(9, DOWN, 8, 7);
        placesFrom(2, DOWN, 1, 0);
        placesFrom(1, DOWN, 0, 0);
        placesFrom(0, DOWN, 0, 0);
        OthersHours x = Checks.with("", deeds(UP, DOWN));
        x.home(0, 9);
        e.due("what 9 held back is not kept: body(0, 1, 1)", x.body(0, 1, 1), 8);
        OthersHours y = Checks.with("", deeds(DOWN, UP));
        e.due("what 0 held back is not kept: body(0, 1, 1)", y.body(0, 1, 1), 1);
        OthersHours z = Checks.with("", deeds(HIDE, WORK, REST));
        z.home(0, 6);
        e.due("others stay where they are: body(0, 2, 1)", z.body(0, 2, 1), 6);
        OthersHours last = Checks.with("", "00232");
        e.due("ahead of the last hour", last.body(0, 22, 1), 0);
        e.due("behind the last hour", last.body(0, 23, 1), 1);
    }

    private void tiredAtFirst() {
        e.terms("It is TIRED by 0 ahead of HOUR 0;");
        int[] want = {0, 2, 1, 1, 0};
        for (int deed = REST; deed <= HIDE; deed++) {
            e.due(deed + ": body(0, 0, 2)", Checks.with("", deeds(deed)).body(0, 0, 2), want[deed]);
        }
        e.due("each body by itself: body(1, 0, 2)", Checks.with("", "00231;11001").body(1, 0, 2), 2);
        e.due("the last hour is not carried on: body(1, 0, 2)", Checks.with("", "00231;11004").body(1, 0, 2), 0);
    }

    /** Deeds by which it is so tired behind the last of them. */
    private static int[] toBe(int tired) {
        int[] deeds = new int[(tired + 1) / 2];
        java.util.Arrays.fill(deeds, WORK);
        if (tired % 2 == 1) {
            deeds[0] = UP;
        }
        return deeds;
    }

    /** It is so tired, then does this: the deed as it is done, how tired it is then. */
    private void then(int tired, int deed, int done, int want) {
        int[] ahead = toBe(tired);
        int[] all = java.util.Arrays.copyOf(ahead, ahead.length + 1);
        all[ahead.length] = deed;
        OthersHours x = Checks.with("", deeds(all));
        int hour = ahead.length;
        x.home(0, 5);
        int place = 5 + tired % 2 + (done == UP ? 1 : done == DOWN ? -1 : 0);
        bodyIs("tired by " + tired + ", then " + deed, x, hour, done, place, want);
        e.due("it's an order that is done", x.done(hour), 1);
    }

    private void tiredMore() {
        e.terms("work makes it 2 more, walking 1 more, hiding none, rest 3 less (0 at least);");
        for (int tired = 0; tired <= 9; tired++) {
            then(tired, HIDE, HIDE, tired);
            then(tired, REST, REST, Math.max(0, tired - 3));
        }
        for (int tired = 0; tired <= 7; tired++) {
            then(tired, WORK, WORK, tired + 2);
            then(tired, UP, UP, tired + 1);
            then(tired, DOWN, DOWN, tired + 1);
        }
        OthersHours x = Checks.with("", deeds(WORK, WORK, WORK, WORK, UP));
        int[] want = {9, 6, 3, 0, 0};
        for (int i = 0; i < want.length; i++) {
            e.due("rest unordered: body(0, " + (4 + i) + ", 2)", x.body(0, 4 + i, 2), want[i]);
        }
    }

    private void tooTired() {
        e.terms("if it would be above 9, the DEED is not done, it rests.");
        then(7, WORK, WORK, 9);
        then(8, WORK, REST, 5);
        then(9, WORK, REST, 6);
        then(8, UP, UP, 9);
        then(9, UP, REST, 6);
        then(8, DOWN, DOWN, 9);
        then(9, DOWN, REST, 6);
        then(9, HIDE, HIDE, 9);
        OthersHours x = Checks.with("", deeds(WORK, WORK, WORK, WORK, WORK, WORK, WORK, WORK, WORK));
        int[] tired = {2, 4, 6, 8, 5, 7, 9, 6, 8};
        int[] done = {WORK, WORK, WORK, WORK, REST, WORK, WORK, REST, WORK};
        for (int hour = 0; hour < tired.length; hour++) {
            bodyIs("work on and on", x, hour, done[hour], 0, tired[hour]);
        }
    }

    private void met() {
        e.terms("MET: HOURS behind which two BODIES are at one PLACE, as bits.");
        e.due("all: met(0, 5)", new OthersHours().met(0, 5), Edges.DAY);
        OthersHours x = new OthersHours();
        x.home(5, 9);
        e.due("none: met(0, 5)", x.met(0, 5), 0);
        x.home(0, 9);
        e.due("all at 9: met(0, 5)", x.met(0, 5), Edges.DAY);
        e.due("parted in the first hour: met(0, 1)", Checks.with("", "00002").met(0, 1), 0);
        e.due("parted behind the first: met(0, 1)", Checks.with("", "00012").met(0, 1), Checks.bits(0));
        e.due("parted in the last: met(0, 1)", Checks.with("", "00232").met(0, 1), Edges.DAY & ~Checks.bits(23));
        e.due("both walk: met(0, 1)", Checks.with("", "00002;11002").met(0, 1), Edges.DAY);
        OthersHours late = Checks.with("", "11233");
        late.home(1, 1);
        e.due("met in the last: met(0, 1)", late.met(0, 1), Checks.bits(23));
        OthersHours bound = Checks.with("", "00003;00013");
        e.due("0 held it: met(0, 1)", bound.met(0, 1), Edges.DAY);
    }

    private void slips() {
        e.terms("SLIPS from one BODY to another one: HOURS (1 on) in which who ACTS in the other one ACTED in the one "
            + "an HOUR ahead, as bits.");
        e.due("nobody does: slips(0, 1)", new OthersHours().slips(0, 1), 0);
        e.due("the first: slips(0, 1)", Checks.with("0005;1015", "").slips(0, 1), Checks.bits(1));
        e.due("the last: slips(0, 1)", Checks.with("0225;1235", "").slips(0, 1), Checks.bits(23));
        e.due("not round the day: slips(0, 1)", Checks.with("0235;1005", "").slips(0, 1), 0);
        e.due("not round the day, from its own: slips(0, 1)", Checks.with("1000", "").slips(0, 1), 0);
        e.due("not in one hour: slips(0, 1)", Checks.with("0075;1075", "").slips(0, 1), 0);
        e.due("not two hours later: slips(0, 1)", Checks.with("0075;1095", "").slips(0, 1), 0);
        e.due("not back: slips(1, 0)", Checks.with("0075;1085", "").slips(1, 0), 0);
        e.due("from its own body: slips(0, 1)", Checks.with("1230", "").slips(0, 1), Checks.bits(23));
        e.due("to its own body: slips(1, 0)", Checks.with("1000", "").slips(1, 0), Checks.bits(1));
        String rings = "0071;1070;0081;1080";
        int[] want = {0, Checks.bits(7, 9), 0};
        for (int law = 0; law < 3; law++) {
            OthersHours x = Edges.byLaw(law, rings, "");
            e.due("where nobody acts, law " + law + ": slips(0, 1)", x.slips(0, 1), want[law]);
        }
        StringBuilder text = new StringBuilder("1000");
        for (int hour = 1; hour < 20; hour++) {
            text.append(";1").append(Edges.figures(hour)).append('0');
        }
        e.due("twenty: slips(0, 1)", Checks.with(text.toString(), "").slips(0, 1), (1 << 20) - 2);
    }

    private void doneCall() {
        e.promise(17, "Whether an ORDER is DONE: 1, 0.");
        OthersHours x = Checks.with("", Edges.orders(15) + ";10001");
        e.due("done(0)", x.done(0), 1);
        e.due("done(14)", x.done(14), 1);
        e.due("done(15)", x.done(15), 0);
        e.promise(17, "BAD.");
        e.range("done(order) of five", 0, 4, (o, v) -> o.done(v));
        e.due("done(16) of sixteen", x.done(16), -2);
        e.due("done(-1) of sixteen", x.done(-1), -2);
        e.due("done(0) of none", new OthersHours().done(0), -2);
        e.due("done(0) of faulty ones", Checks.with("", "00001;").done(0), -2);
    }

    private void bodyCall() {
        e.promise(19, "Of a BODY in an HOUR: its DEED (what = 0; as it is done), behind it its PLACE (1), "
            + "how TIRED it is (2).");
        OthersHours x = Checks.with("", "55002;55232;00013");
        e.due("body(5, 0, 0)", x.body(5, 0, 0), UP);
        e.due("body(5, 0, 1)", x.body(5, 0, 1), 1);
        e.due("body(5, 0, 2)", x.body(5, 0, 2), 1);
        e.due("body(5, 22, 1)", x.body(5, 22, 1), 1);
        e.due("body(5, 22, 2)", x.body(5, 22, 2), 0);
        e.due("body(5, 23, 0)", x.body(5, 23, 0), UP);
        e.due("body(5, 23, 1)", x.body(5, 23, 1), 2);
        e.due("body(5, 23, 2)", x.body(5, 23, 2), 1);
        e.due("body(0, 1, 0)", x.body(0, 1, 0), DOWN);
        OthersHours tired = Checks.with("", deeds(WORK, WORK, WORK, WORK, WORK));
        e.due("as it is done: body(0, 4, 0)", tired.body(0, 4, 0), REST);
        int[][] byLaw = {{REST, 0, 0}, {HIDE, 0, 0}, {UP, 1, 1}};
        for (int law = 0; law < 3; law++) {
            OthersHours y = Edges.byLaw(law, RING, RING_ORDERS);
            for (int what = 0; what < 3; what++) {
                e.due("law " + law + ": body(0, 7, " + what + ")", y.body(0, 7, what), byLaw[law][what]);
            }
        }
        e.promise(19, "BAD.");
        for (int what = 0; what < 3; what++) {
            int asked = what;
            e.range("body(body, 3, " + what + ")", 0, 5, (o, v) -> o.body(v, 3, asked));
            e.range("body(3, hour, " + what + ")", 0, 23, (o, v) -> o.body(3, v, asked));
        }
        e.range("body(3, 3, what)", 0, 2, (o, v) -> o.body(3, 3, v));
    }

    private void metCall() {
        e.promise(20, "MET, as bits.");
        OthersHours x = Checks.with("", "00202");
        e.due("met(0, 3)", x.met(0, 3), (1 << 20) - 1);
        e.due("met(3, 0)", x.met(3, 0), (1 << 20) - 1);
        int[] byLaw = {Edges.DAY, Edges.DAY, Checks.bits(0, 1, 2, 3, 4, 5, 6)};
        for (int law = 0; law < 3; law++) {
            e.due("law " + law + ": met(0, 3)", Edges.byLaw(law, RING, RING_ORDERS).met(0, 3), byLaw[law]);
            e.due("law " + law + ": met(1, 3)", Edges.byLaw(law, RING, "01072").met(1, 3), byLaw[(law + 1) % 3]);
        }
        e.promise(20, "BAD: also one with itself.");
        e.range("met(a, 2)", 0, 5, (o, v) -> o.met(v, 2));
        e.range("met(2, b)", 0, 5, (o, v) -> o.met(2, v));
        for (int body = -1; body <= 6; body++) {
            int same = body;
            e.refused("met(" + body + ", " + body + ")", Edges::busy, o -> o.met(same, same), -2, Edges.FOUND);
        }
    }

    private void slipsCall() {
        e.promise(21, "SLIPS from the first BODY to the second one, as bits.");
        OthersHours x = Checks.with("2055;3065", "");
        e.due("slips(2, 3)", x.slips(2, 3), Checks.bits(6));
        e.due("slips(3, 2)", x.slips(3, 2), 0);
        e.promise(21, "BAD: also one with itself.");
        e.range("slips(a, 2)", 0, 5, (o, v) -> o.slips(v, 2));
        e.range("slips(2, b)", 0, 5, (o, v) -> o.slips(2, v));
        for (int body = -1; body <= 6; body++) {
            int same = body;
            e.refused("slips(" + body + ", " + body + ")", Edges::busy, o -> o.slips(same, same), -2, Edges.FOUND);
        }
    }
}
