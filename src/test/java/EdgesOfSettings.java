/** Sentences of the law, homes and worths at their bounds; promises 6 to 9. */
final class EdgesOfSettings {
    private final Edges e;

    EdgesOfSettings(Edges e) {
        this.e = e;
    }

    void tell() {
        law();
        home();
        worth();
        read();
        readAsLong();
        readRefusals();
    }

    private void law() {
        e.terms("LAW (0 to 2; 0 at first):");
        e.due("count(6) of a new one", new OthersHours().count(6), 0);
        for (int law = 0; law <= 2; law++) {
            e.due("setLaw(" + law + ") of a new one", new OthersHours().setLaw(law), 0);
        }
        e.due("setLaw(-1)", new OthersHours().setLaw(-1), -2);
        e.due("setLaw(3)", new OthersHours().setLaw(3), -2);
        e.promise(6, "LAW: what it was.");
        OthersHours x = new OthersHours();
        int[] laws = {2, 2, 1, 0, 1, 2, 0, 0};
        int was = 0;
        for (int law : laws) {
            e.due("setLaw(" + law + ")", x.setLaw(law), was);
            e.due("count(6)", x.count(6), law);
            was = law;
        }
        e.promise(6, "BAD.");
        e.range("setLaw(v)", 0, 2, (o, v) -> o.setLaw(v));
    }

    private void home() {
        e.terms("A BODY has a HOME (0 to 9; 0 at first): its PLACE ahead of HOUR 0;");
        OthersHours x = Checks.with("", "00004;11002;22003;33001");
        for (int body = 0; body < 6; body++) {
            e.due("at first: home(" + body + ", 5)", x.home(body, 5), 0);
        }
        int[] places = {5, 6, 4, 5, 5, 5};
        for (int body = 0; body < 6; body++) {
            e.due("body(" + body + ", 0, 1)", x.body(body, 0, 1), places[body]);
            e.due("body(" + body + ", 23, 1)", x.body(body, 23, 1), places[body]);
        }
        e.promise(7, "HOME: what it was.");
        OthersHours y = new OthersHours();
        e.due("home(5, 9)", y.home(5, 9), 0);
        e.due("home(5, 9) again", y.home(5, 9), 9);
        e.due("home(5, 0)", y.home(5, 0), 9);
        e.due("home(5, 1)", y.home(5, 1), 0);
        e.due("the others' stay: home(4, 2)", y.home(4, 2), 0);
        e.due("the others' stay: home(0, 2)", y.home(0, 2), 0);
        e.promise(7, "BAD.");
        e.range("home(body, 3)", 0, 5, (o, v) -> o.home(v, 3));
        e.range("home(0, place)", 0, 9, (o, v) -> o.home(0, v));
        e.range("home(5, place)", 0, 9, (o, v) -> o.home(5, v));
    }

    private void worth() {
        e.terms("WORTH of an HOUR to a PERSON (0 to 9; 0 at first; the same of all BODIES).");
        OthersHours x = Checks.with("2031;3031;0050;4050", "");
        for (int person = 0; person < 6; person++) {
            e.due("at first", x.worth(person, person * 4, 0), 0);
        }
        x.worth(1, 5, 9);
        x.worth(0, 3, 9);
        for (int body : new int[] {2, 3, 1}) {
            for (int other : new int[] {0, 4}) {
                e.due("trade(" + body + ", 3, " + other + ", 5)", x.trade(body, 3, other, 5), 1);
            }
        }
        e.promise(8, "WORTH: what it was.");
        OthersHours y = new OthersHours();
        e.due("worth(0, 0, 9)", y.worth(0, 0, 9), 0);
        e.due("worth(5, 23, 9)", y.worth(5, 23, 9), 0);
        e.due("worth(0, 23, 1)", y.worth(0, 23, 1), 0);
        e.due("worth(1, 0, 2)", y.worth(1, 0, 2), 0);
        e.due("worth(0, 0, 9) again", y.worth(0, 0, 9), 9);
        e.due("worth(0, 0, 0)", y.worth(0, 0, 0), 9);
        e.due("worth(5, 23, 0)", y.worth(5, 23, 0), 9);
        e.due("worth(0, 23, 0)", y.worth(0, 23, 0), 1);
        e.due("worth(1, 0, 0)", y.worth(1, 0, 0), 2);
        e.promise(8, "BAD.");
        e.range("worth(person, 1, 4)", 0, 5, (o, v) -> o.worth(v, 1, 4));
        e.range("worth(1, hour, 4)", 0, 23, (o, v) -> o.worth(1, v, 4));
        e.range("worth(1, 1, v)", 0, 9, (o, v) -> o.worth(1, 1, v));
    }

    /** A sheet of so many items, each 1 to 9 by its place. */
    private static OthersHours withItems(int form, int items) {
        OthersHours x = new OthersHours();
        x.sheet(3, form, items);
        for (int i = 0; i < items; i++) {
            x.lay(3, form, i, 1 + i % 9);
        }
        return x;
    }

    private void read() {
        e.promise(9, "WORTHS of HOURS 0 on to a PERSON by a SHEET, item by item,");
        for (int form = 0; form < 3; form++) {
            OthersHours x = withItems(form, 7);
            x.worth(2, 7, 6);
            e.due("read(3, 2)", x.read(3, 2), 7);
            for (int hour = 0; hour < 7; hour++) {
                e.due("worth(2, " + hour + ", 0)", x.worth(2, hour, 0), 1 + hour);
            }
            e.due("behind the last it stays: worth(2, 7, 0)", x.worth(2, 7, 0), 6);
            e.due("the others' stay: worth(1, 0, 0)", x.worth(1, 0, 0), 0);
            e.due("the others' stay: worth(3, 0, 0)", x.worth(3, 0, 0), 0);
            e.due("the sheet stays", x.get(3, form, 6), 7);
        }
        e.promise(9, "24 at most: how many.");
        for (int items : new int[] {0, 1, 23, 24, 25, 60}) {
            OthersHours x = withItems(0, items);
            e.due("read(3, 4) of " + items, x.read(3, 4), Math.min(items, 24));
            for (int hour = 0; hour < 24; hour++) {
                e.due("worth(4, " + hour + ", 0)", x.worth(4, hour, 0), hour < items ? 1 + hour % 9 : 0);
            }
            e.due("the next one's stays: worth(5, 0, 0)", x.worth(5, 0, 0), 0);
        }
        e.due("the last one's: read(3, 5) of 60", withItems(2, 60).read(3, 5), 24);
    }

    private void readAsLong() {
        e.promise(9, "as long as each may be,");
        int[] wells = {0, 9};
        int[] wrongs = {-1, 10, 100, -100};
        for (int v : wells) {
            OthersHours x = withItems(2, 3);
            x.lay(3, 2, 1, v);
            e.due("read(3, 0) with " + v, x.read(3, 0), 3);
            e.due("worth(0, 1, 0)", x.worth(0, 1, 0), v);
        }
        for (int v : wrongs) {
            for (int at : new int[] {0, 1, 22, 23, 24}) {
                OthersHours x = withItems(0, 30);
                x.worth(0, 23, 4);
                x.lay(3, 0, at, v);
                e.due("read(3, 0) with " + v + " at " + at, x.read(3, 0), at);
                e.due("worth(0, 23, 0)", x.worth(0, 23, 0), at == 24 ? 1 + 23 % 9 : 4);
                e.due("the one ahead", at == 0 ? 0 : x.worth(0, 0, 0), at == 0 ? 0 : 1);
            }
        }
        OthersHours far = withItems(2, 2);
        far.lay(3, 2, 0, Edges.MOST);
        e.due("read(3, 0) of the most", far.read(3, 0), 0);
        far.lay(3, 2, 0, Edges.LEAST);
        e.due("read(3, 0) of the least", far.read(3, 0), 0);
    }

    private void readRefusals() {
        e.promise(9, "BAD; NULL.");
        e.range("read(s, 0)", 0, 3, (o, v) -> o.read(v, 0));
        e.range("read(0, person)", 0, 5, (o, v) -> o.read(0, v));
        e.refused("read(3, 0) of a lost one", Edges::busy, o -> o.read(3, 0), -11, 1);
        e.refused("read(3, 6) of a lost one", Edges::busy, o -> o.read(3, 6), -2, Edges.FOUND);
        e.refused("read(3, -1) of a lost one", Edges::busy, o -> o.read(3, -1), -2, Edges.FOUND);
        e.refused("read(0, 0) of a new one", OthersHours::new, o -> o.read(0, 0), -11, 1);
    }
}
