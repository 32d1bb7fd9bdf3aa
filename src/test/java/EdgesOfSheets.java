/** Sentences of sheets and findings, of the order of refusals, of counts and the digest; promises 34 to 41. */
final class EdgesOfSheets {
    private static final int LEAST = Edges.LEAST;
    private static final int MOST = Edges.MOST;
    private final Edges e;

    EdgesOfSheets(Edges e) {
        this.e = e;
    }

    void tell() {
        atFirst();
        findings();
        refusalOrder();
        refusalsChangeNothing();
        sheet();
        lose();
        lay();
        layRefusals();
        get();
        copy();
        copyRefusals();
        write();
        count();
        latestFinding();
        digest();
    }

    private void atFirst() {
        e.terms("SHEETS 0 .. 3 are LOST (at first) or a row of a FORM: 0 bytes, 1 shorts, 2 ints, "
            + "of 0 to 60 items (0 at first).");
        for (int s = 0; s < 4; s++) {
            OthersHours x = new OthersHours();
            e.due("lost at first: lose(" + s + ")", x.lose(s), -11);
            for (int form = 0; form < 3; form++) {
                e.due("of none: sheet", x.sheet(s, form, 0), 0);
                e.due("of none it is not lost: lose(" + s + ")", x.lose(s), 0);
                e.due("of sixty: sheet", x.sheet(s, form, 60), 60);
                for (int i = 0; i < 60; i++) {
                    e.due("at first: item " + i, x.get(s, form, i), 0);
                }
                e.due("no item 60", x.get(s, form, 60), LEAST);
            }
        }
        e.due("sheet -1", new OthersHours().sheet(-1, 0, 1), -2);
        e.due("sheet 4", new OthersHours().sheet(4, 0, 1), -2);
        e.due("form -1", new OthersHours().sheet(0, -1, 1), -2);
        e.due("form 3", new OthersHours().sheet(0, 3, 1), -2);
        e.due("61 items", new OthersHours().sheet(0, 0, 61), -2);
        int[] bits = {127, 32767, MOST};
        for (int form = 0; form < 3; form++) {
            OthersHours x = new OthersHours();
            x.sheet(0, form, 1);
            x.lay(0, form, 0, bits[form]);
            e.due("the most of form " + form, x.get(0, form, 0), bits[form]);
            x.lay(0, form, 0, bits[form] + 1);
            e.due("one more of form " + form, x.get(0, form, 0), -bits[form] - 1);
        }
    }

    private void findings() {
        e.terms("FINDINGS (answers -10 less the number; they change nothing but count() 8):");
        e.refused("lose(3)", Edges::busy, x -> x.lose(3), -10 - 1, 1);
        e.refused("lay(0, 0, 4, 7)", Edges::busy, x -> x.lay(0, 0, 4, 7), -10 - 2, 2);
        e.refused("lay(0, 1, 0, 7)", Edges::busy, x -> x.lay(0, 1, 0, 7), -10 - 3, 3);
        e.refused("copy(0, 0, 2, 0, 1)", Edges::busy, x -> x.copy(0, 0, 2, 0, 1), -10 - 4, 4);
        e.refused("sheet(0, 0, -1)", Edges::busy, x -> x.sheet(0, 0, -1), -10 - 5, 5);
        e.terms("1 NULL: the SHEET is LOST;");
        e.refused("read(3, 0)", Edges::busy, x -> x.read(3, 0), -11, 1);
        e.refused("lay(3, 0, 0, 0)", Edges::busy, x -> x.lay(3, 0, 0, 0), -11, 1);
        e.refused("get(3, 0, 0)", Edges::busy, x -> x.get(3, 0, 0), LEAST, 1);
        e.refused("copy(3, 0, 0, 0, 1)", Edges::busy, x -> x.copy(3, 0, 0, 0, 1), -11, 1);
        e.refused("copy(0, 0, 3, 0, 1)", Edges::busy, x -> x.copy(0, 0, 3, 0, 1), -11, 1);
        e.refused("write(0, 3)", Edges::busy, x -> x.write(0, 3), -11, 1);
        e.terms("2 INDEX: there is no such item;");
        for (int i : new int[] {-1, 4, LEAST, MOST}) {
            e.refused("lay(0, 0, " + i + ", 7)", Edges::busy, x -> x.lay(0, 0, i, 7), -12, 2);
            e.refused("get(0, 0, " + i + ")", Edges::busy, x -> x.get(0, 0, i), LEAST, 2);
        }
        e.due("there is the last: lay(0, 0, 3, 7)", Edges.busy().lay(0, 0, 3, 7), 1);
        e.due("there is the first: lay(0, 0, 0, 7)", Edges.busy().lay(0, 0, 0, 7), 1);
        e.terms("3 CAST: it has another FORM;");
        for (int form = 1; form < 3; form++) {
            int other = form;
            e.refused("lay(0, " + form + ", 0, 7)", Edges::busy, x -> x.lay(0, other, 0, 7), -13, 3);
            e.refused("get(0, " + form + ", 0)", Edges::busy, x -> x.get(0, other, 0), LEAST, 3);
        }
        e.terms("4 STORE: unlike FORMS;");
        e.refused("copy(0, 0, 2, 0, 1)", Edges::busy, x -> x.copy(0, 0, 2, 0, 1), -14, 4);
        e.refused("copy(2, 0, 0, 0, 0)", Edges::busy, x -> x.copy(2, 0, 0, 0, 0), -14, 4);
        e.terms("5 SIZE: below 0.");
        e.refused("sheet(3, 0, -1)", Edges::busy, x -> x.sheet(3, 0, -1), -15, 5);
        e.refused("sheet(0, 0, least)", Edges::busy, x -> x.sheet(0, 0, LEAST), -15, 5);
        e.due("0 is not below: sheet(0, 0, 0)", Edges.busy().sheet(0, 0, 0), 0);
    }

    /** Two or more of them fit each of these calls. */
    private void refusalOrder() {
        e.terms("Refusals, the first that fits, in the order told at each act:");
        e.refused("BAD, NULL: read(3, 6)", Edges::busy, x -> x.read(3, 6), -2, Edges.FOUND);
        e.refused("BAD, SIZE: sheet(4, 0, -1)", Edges::busy, x -> x.sheet(4, 0, -1), -2, Edges.FOUND);
        e.refused("BAD, NULL, INDEX: lay(3, 3, -1, 0)", Edges::busy, x -> x.lay(3, 3, -1, 0), -2, Edges.FOUND);
        e.refused("NULL, CAST, INDEX: lay(3, 1, -1, 0)", Edges::busy, x -> x.lay(3, 1, -1, 0), -11, 1);
        e.refused("CAST, INDEX: lay(0, 1, -1, 0)", Edges::busy, x -> x.lay(0, 1, -1, 0), -13, 3);
        e.refused("BAD, NULL: copy(3, 0, 4, 0, 1)", Edges::busy, x -> x.copy(3, 0, 4, 0, 1), -2, Edges.FOUND);
        e.refused("NULL, STORE, INDEX: copy(3, 0, 2, 0, -1)", Edges::busy, x -> x.copy(3, 0, 2, 0, -1), -11, 1);
        e.refused("STORE, INDEX: copy(0, 0, 2, 0, -1)", Edges::busy, x -> x.copy(0, 0, 2, 0, -1), -14, 4);
        e.terms("BAD -2 (a number not as told, no such thing), NULL, NOT -3 (as told), FULL -4, other FINDINGS.");
        e.due("BAD", OthersHours.BAD, -2);
        e.due("NOT", OthersHours.NOT, -3);
        e.due("FULL", OthersHours.FULL, -4);
        e.refused("a number not as told: type(0, 256)", Edges::busy, x -> x.type(0, 256), -2, Edges.FOUND);
        e.refused("no such thing: done(5) of five", Edges::busy, x -> x.done(5), -2, Edges.FOUND);
        e.refused("BAD, NOT: trade(1, 1, 1, 24)", Edges::busy, x -> x.trade(1, 1, 1, 24), -2, Edges.FOUND);
        e.refused("NOT: trade(1, 1, 1, 2)", Edges::busy, x -> x.trade(1, 1, 1, 2), -3, Edges.FOUND);
        e.refused("BAD, FULL: type(0, 256) of 99", Edges::full, x -> x.type(0, 256), -2, Edges.FOUND);
        e.refused("FULL: type(0, 48) of 99", Edges::full, x -> x.type(0, 48), -4, Edges.FOUND);
        e.refused("BAD, FULL: seen(0, 0, 5) of eight", Edges::full, x -> x.seen(0, 0, 5), -2, Edges.FOUND);
        e.refused("FULL: seen(0, 0, 0) of eight", Edges::full, x -> x.seen(0, 0, 0), -4, Edges.FOUND);
    }

    private void refusalsChangeNothing() {
        e.terms("They change nothing (FINDINGS but count() 8).");
        e.refused("BAD: wipe(2)", Edges::busy, x -> x.wipe(2), -2, Edges.FOUND);
        e.refused("NOT: undo(1)", Edges::full, x -> x.undo(1), -3, Edges.FOUND);
        e.refused("FULL: type(1, 48)", Edges::full, x -> x.type(1, 48), -4, Edges.FOUND);
        e.refused("NULL: lose(3)", Edges::busy, x -> x.lose(3), -11, 1);
        e.refused("any number: frees(6)", Edges::busy, x -> x.frees(6), -1002, Edges.FOUND);
        e.refused("least: get(4, 0, 0)", Edges::busy, x -> x.get(4, 0, 0), LEAST, Edges.FOUND);
        e.refused("before any finding: get(4, 0, 0)", OthersHours::new, x -> x.get(4, 0, 0), LEAST, 0);
        e.refused("before any finding: undo(0)", OthersHours::new, x -> x.undo(0), -3, 0);
    }

    private void sheet() {
        e.promise(34, "A SHEET is a new row of a FORM with n items: n.");
        OthersHours x = new OthersHours();
        for (int n : new int[] {0, 1, 59, 60}) {
            e.due("sheet(3, 2, " + n + ")", x.sheet(3, 2, n), n);
            e.due("the last item", x.get(3, 2, n - 1), n == 0 ? LEAST : 0);
            e.due("none behind it", x.get(3, 2, n), LEAST);
            x.lay(3, 2, n - 1, 9);
            e.due("lose(3)", x.lose(3), n);
        }
        x.sheet(0, 2, 60);
        for (int i = 0; i < 60; i++) {
            x.lay(0, 2, i, 70000 + i);
        }
        e.due("new, and shorter", x.sheet(0, 2, 2), 2);
        e.due("its items are 0", x.get(0, 2, 1), 0);
        e.due("new, and longer", x.sheet(0, 1, 60), 60);
        for (int i = 0; i < 60; i++) {
            e.due("its items are 0: " + i, x.get(0, 1, i), 0);
        }
        e.due("it has another form", x.get(0, 2, 0), LEAST);
        e.due("count(8) of that", x.count(8), 3);
        e.promise(34, "BAD: SHEET, FORM, above 60; SIZE.");
        e.range("sheet(s, 0, 1)", 0, 3, (o, v) -> o.sheet(v, 0, 1));
        e.range("sheet(0, form, 1)", 0, 2, (o, v) -> o.sheet(0, v, 1));
        for (int n : new int[] {61, 62, MOST}) {
            e.refused("sheet(0, 0, " + n + ")", Edges::busy, o -> o.sheet(0, 0, n), -2, Edges.FOUND);
            e.refused("sheet(3, 2, " + n + ")", OthersHours::new, o -> o.sheet(3, 2, n), -2, 0);
        }
        for (int n : new int[] {-1, -2, LEAST}) {
            e.refused("sheet(0, 0, " + n + ")", OthersHours::new, o -> o.sheet(0, 0, n), -15, 5);
            e.refused("sheet(-1, 0, " + n + ")", OthersHours::new, o -> o.sheet(-1, 0, n), -2, 0);
            e.refused("sheet(4, 0, " + n + ")", OthersHours::new, o -> o.sheet(4, 0, n), -2, 0);
            e.refused("sheet(0, -1, " + n + ")", OthersHours::new, o -> o.sheet(0, -1, n), -2, 0);
            e.refused("sheet(0, 3, " + n + ")", OthersHours::new, o -> o.sheet(0, 3, n), -2, 0);
        }
    }

    private void lose() {
        e.promise(35, "It is LOST: how many items it had.");
        for (int n : new int[] {0, 1, 60}) {
            OthersHours x = new OthersHours();
            x.sheet(0, 1, n);
            x.sheet(3, 1, 5);
            e.due("lose(0) of " + n, x.lose(0), n);
            e.due("lose(0) again", x.lose(0), -11);
            e.due("read(0, 0)", x.read(0, 0), -11);
            e.due("lay(0, 1, 0, 0)", x.lay(0, 1, 0, 0), -11);
            e.due("lay(0, 2, 0, 0): lost, whatever form it had", x.lay(0, 2, 0, 0), -11);
            e.due("copy(0, 0, 3, 0, 0)", x.copy(0, 0, 3, 0, 0), -11);
            e.due("copy(3, 0, 0, 0, 0)", x.copy(3, 0, 0, 0, 0), -11);
            e.due("write(0, 0)", x.write(0, 0), -11);
            e.due("the others stay: lose(3)", x.lose(3), 5);
        }
        for (int s = 0; s < 4; s++) {
            OthersHours x = new OthersHours();
            for (int i = 0; i < 4; i++) {
                x.sheet(i, 0, 10 + i);
            }
            e.due("lose(" + s + ") of four", x.lose(s), 10 + s);
            for (int i = 0; i < 4; i++) {
                e.due("lose(" + i + ") then", x.lose(i), i == s ? -11 : 10 + i);
            }
        }
        e.promise(35, "BAD; NULL.");
        e.range("lose(s)", 0, 3, (o, v) -> o.lose(v));
        for (int s = 0; s < 4; s++) {
            int lost = s;
            e.refused("lose(" + s + ") of a lost one", OthersHours::new, o -> o.lose(lost), -11, 1);
        }
    }

    private void lay() {
        e.promise(36, "Item i, treated as of a FORM, becomes v (the lowest bits that it has): 1.");
        int[] vs = {0, 1, -1, 127, 128, 255, 256, -128, -129, -256, 32767, 32768, 65535, 65536, -32768, -32769,
            MOST, LEAST + 1, 0x12345678};
        OthersHours x = new OthersHours();
        for (int form = 0; form < 3; form++) {
            x.sheet(form, form, 60);
        }
        for (int v : vs) {
            for (int form = 0; form < 3; form++) {
                e.due("lay(" + form + ", .., " + v + ")", x.lay(form, form, 59, v), 1);
            }
            e.due("a byte of " + v, x.get(0, 0, 59), (byte) v);
            e.due("a short of " + v, x.get(1, 1, 59), (short) v);
            e.due("an int of " + v, x.get(2, 2, 59), v);
        }
        e.due("the first: lay(0, 0, 0, 5)", x.lay(0, 0, 0, 5), 1);
        e.due("get(0, 0, 0)", x.get(0, 0, 0), 5);
        e.due("the one beside stays: get(0, 0, 1)", x.get(0, 0, 1), 0);
        e.due("the one beside stays: get(0, 0, 58)", x.get(0, 0, 58), 0);
        e.due("the least int", x.lay(2, 2, 3, LEAST), 1);
        e.due("no finding by it", x.count(8), 0);
        e.due("get of the least int", x.get(2, 2, 3), LEAST);
        e.due("no finding by it", x.count(8), 0);
    }

    private void layRefusals() {
        e.promise(36, "BAD; NULL; CAST; INDEX.");
        e.range("lay(s, 0, 0, 7)", 0, 3, (o, v) -> o.lay(v, 0, 0, 7));
        e.range("lay(0, form, 0, 7)", 0, 2, (o, v) -> o.lay(0, v, 0, 7));
        itemsOf(0, 0, 4);
        itemsOf(1, 0, 60);
        itemsOf(2, 2, 1);
        e.refused("lay(3, 0, 0, 7)", Edges::busy, o -> o.lay(3, 0, 0, 7), -11, 1);
        e.refused("BAD ahead of NULL: lay(3, 3, 0, 7)", Edges::busy, o -> o.lay(3, 3, 0, 7), -2, Edges.FOUND);
        e.refused("BAD ahead of NULL: lay(3, -1, 0, 7)", Edges::busy, o -> o.lay(3, -1, 0, 7), -2, Edges.FOUND);
        e.refused("NULL ahead of INDEX: lay(3, 0, 60, 7)", Edges::busy, o -> o.lay(3, 0, 60, 7), -11, 1);
        e.refused("NULL ahead of CAST: lay(3, 2, 0, 7)", Edges::busy, o -> o.lay(3, 2, 0, 7), -11, 1);
        e.refused("CAST ahead of INDEX: lay(2, 0, 1, 7)", Edges::busy, o -> o.lay(2, 0, 1, 7), -13, 3);
        e.refused("CAST ahead of INDEX: lay(0, 2, -1, 7)", Edges::busy, o -> o.lay(0, 2, -1, 7), -13, 3);
    }

    /** Of a sheet of busy(): there are the first and the last of so many items, and none beyond. */
    private void itemsOf(int s, int form, int items) {
        for (int i : new int[] {0, items - 1}) {
            e.due("lay(" + s + ", " + form + ", " + i + ", 7)", Edges.busy().lay(s, form, i, 7), 1);
        }
        for (int i : new int[] {-1, items, LEAST, MOST}) {
            e.refused("lay(" + s + ", " + form + ", " + i + ", 7)", Edges::busy, o -> o.lay(s, form, i, 7), -12, 2);
        }
    }

    private void get() {
        e.promise(37, "Item i of it.");
        OthersHours x = new OthersHours();
        x.sheet(1, 2, 60);
        for (int i = 0; i < 60; i++) {
            x.lay(1, 2, i, i * 1000003);
        }
        for (int i = 0; i < 60; i++) {
            e.due("get(1, 2, " + i + ")", x.get(1, 2, i), i * 1000003);
        }
        e.due("no finding", x.count(8), 0);
        e.promise(37, "BAD: the least int; so are NULL, CAST, INDEX (count() 8 tells).");
        for (int s = 0; s < 4; s++) {
            for (int form = 0; form < 3; form++) {
                OthersHours y = new OthersHours();
                y.sheet(s, form, 1);
                e.due("get(" + s + ", " + form + ", 0)", y.get(s, form, 0), 0);
            }
        }
        for (int none : new int[] {-1, 4, LEAST, MOST}) {
            e.refused("BAD: get(" + none + ", 0, 0)", Edges::busy, o -> o.get(none, 0, 0), LEAST, Edges.FOUND);
        }
        for (int none : new int[] {-1, 3, LEAST, MOST}) {
            e.refused("BAD: get(0, " + none + ", 0)", Edges::busy, o -> o.get(0, none, 0), LEAST, Edges.FOUND);
        }
        for (int i : new int[] {-1, 4, LEAST, MOST}) {
            e.refused("INDEX: get(0, 0, " + i + ")", Edges::busy, o -> o.get(0, 0, i), LEAST, 2);
        }
        e.refused("NULL: get(3, 0, 0)", Edges::busy, o -> o.get(3, 0, 0), LEAST, 1);
        e.refused("BAD ahead of NULL: get(3, 3, 0)", Edges::busy, o -> o.get(3, 3, 0), LEAST, Edges.FOUND);
        e.refused("NULL ahead of INDEX: get(3, 0, -1)", Edges::busy, o -> o.get(3, 0, -1), LEAST, 1);
        e.refused("NULL ahead of CAST: get(3, 2, 0)", Edges::busy, o -> o.get(3, 2, 0), LEAST, 1);
        e.refused("CAST: get(0, 1, 0)", Edges::busy, o -> o.get(0, 1, 0), LEAST, 3);
        e.refused("CAST ahead of INDEX: get(0, 1, 4)", Edges::busy, o -> o.get(0, 1, 4), LEAST, 3);
        e.due("the last: get(1, 0, 59)", Edges.busy().get(1, 0, 59), 77);
    }

    /** 0 has 1 to 6 and 1 has 11 to 16, both of bytes. */
    private static OthersHours rows() {
        OthersHours x = new OthersHours();
        x.sheet(0, 0, 6);
        x.sheet(1, 0, 6);
        for (int i = 0; i < 6; i++) {
            x.lay(0, 0, i, 1 + i);
            x.lay(1, 0, i, 11 + i);
        }
        return x;
    }

    private void copyOf(int s, int i, int t, int j, int n, int... want) {
        OthersHours x = rows();
        String call = "copy(" + s + ", " + i + ", " + t + ", " + j + ", " + n + ")";
        e.due(call, x.copy(s, i, t, j, n), 1);
        for (int k = 0; k < 6; k++) {
            e.due(call + ": item " + k, x.get(t, 0, k), want[k]);
            e.due(call + ": the other's item " + k, x.get(1 - t, 0, k), 1 + 10 * (1 - t) + k);
        }
        e.due(call + ": count(8)", x.count(8), 0);
    }

    private void copy() {
        e.promise(38, "n items of SHEET s, from i on, come to SHEET t (perhaps s, as they were), from j on: 1.");
        copyOf(0, 0, 1, 0, 6, 1, 2, 3, 4, 5, 6);
        copyOf(0, 0, 1, 0, 1, 1, 12, 13, 14, 15, 16);
        copyOf(0, 5, 1, 5, 1, 11, 12, 13, 14, 15, 6);
        copyOf(0, 0, 1, 5, 1, 11, 12, 13, 14, 15, 1);
        copyOf(0, 5, 1, 0, 1, 6, 12, 13, 14, 15, 16);
        copyOf(1, 1, 0, 2, 3, 1, 2, 12, 13, 14, 6);
        copyOf(0, 0, 0, 1, 5, 1, 1, 2, 3, 4, 5);
        copyOf(0, 1, 0, 0, 5, 2, 3, 4, 5, 6, 6);
        copyOf(0, 0, 0, 0, 6, 1, 2, 3, 4, 5, 6);
        copyOf(0, 0, 1, 0, 0, 11, 12, 13, 14, 15, 16);
        copyOf(0, 6, 1, 6, 0, 11, 12, 13, 14, 15, 16);
        OthersHours x = new OthersHours();
        x.sheet(2, 2, 60);
        x.sheet(3, 2, 60);
        x.lay(2, 2, 59, MOST);
        e.due("sixty", x.copy(2, 0, 3, 0, 60), 1);
        e.due("the last of sixty", x.get(3, 2, 59), MOST);
        x.sheet(0, 1, 0);
        e.due("none of none", x.copy(0, 0, 0, 0, 0), 1);
    }

    private void copyRefusals() {
        e.promise(38, "BAD: the SHEETS; NULL: s, t; STORE; INDEX: below 0, not so many.");
        e.range("copy(s, 0, 0, 0, 1)", 0, 3, (o, v) -> o.copy(v, 0, 0, 0, 1));
        e.range("copy(0, 0, t, 0, 1)", 0, 3, (o, v) -> o.copy(0, 0, v, 0, 1));
        e.refused("BAD ahead of NULL: copy(3, 0, -1, 0, 1)", Edges::busy, o -> o.copy(3, 0, -1, 0, 1), -2, Edges.FOUND);
        e.refused("BAD ahead of NULL: copy(4, 0, 3, 0, 1)", Edges::busy, o -> o.copy(4, 0, 3, 0, 1), -2, Edges.FOUND);
        e.refused("NULL, s: copy(3, 0, 0, 0, 0)", Edges::busy, o -> o.copy(3, 0, 0, 0, 0), -11, 1);
        e.refused("NULL, t: copy(0, 0, 3, 0, 0)", Edges::busy, o -> o.copy(0, 0, 3, 0, 0), -11, 1);
        e.refused("NULL, both: copy(3, 0, 3, 0, 0)", Edges::busy, o -> o.copy(3, 0, 3, 0, 0), -11, 1);
        e.refused("NULL ahead of STORE: copy(2, 0, 3, 0, 0)", Edges::busy, o -> o.copy(2, 0, 3, 0, 0), -11, 1);
        e.refused("NULL ahead of INDEX: copy(0, -1, 3, 0, 0)", Edges::busy, o -> o.copy(0, -1, 3, 0, 0), -11, 1);
        e.refused("STORE: copy(2, 0, 0, 0, 1)", Edges::busy, o -> o.copy(2, 0, 0, 0, 1), -14, 4);
        e.refused("STORE, of none: copy(0, 0, 2, 0, 0)", Edges::busy, o -> o.copy(0, 0, 2, 0, 0), -14, 4);
        e.refused("STORE ahead of INDEX: copy(2, 9, 0, 9, 9)", Edges::busy, o -> o.copy(2, 9, 0, 9, 9), -14, 4);
        int[][] wrong = {{-1, 0, 1}, {0, -1, 1}, {0, 0, -1}, {-1, 0, 0}, {0, -1, 0}, {7, 0, 0}, {0, 7, 0}, {0, 0, 7},
            {1, 0, 6}, {0, 1, 6}, {6, 0, 1}, {0, 6, 1}, {5, 0, 2}, {0, 5, 2}, {-1, -1, -1}, {MOST, 0, 1}, {0, MOST, 1},
            {0, 0, MOST}, {1, 0, MOST}, {0, 1, MOST}, {MOST, 0, MOST}, {0, MOST, MOST}, {MOST, MOST, MOST},
            {LEAST, 0, 1}, {0, LEAST, 1}, {0, 0, LEAST}, {LEAST, LEAST, LEAST}, {7, 0, -1}, {6, 6, -6}};
        for (int[] w : wrong) {
            for (int t = 0; t < 2; t++) {
                int to = t;
                e.refused("INDEX: copy(0, " + w[0] + ", " + t + ", " + w[1] + ", " + w[2] + ")", EdgesOfSheets::rows,
                    o -> o.copy(0, w[0], to, w[1], w[2]), -12, 2);
            }
        }
    }

    private void write() {
        e.promise(39, "Who ACTS in a BODY in HOURS 0 on (NONE) comes to a SHEET from item 0 on,");
        int[] third = {-1, 1, 0};
        for (int law = 0; law < 3; law++) {
            for (int form = 0; form < 3; form++) {
                OthersHours x = Edges.byLaw(law, "0031;1030;0235;0004", "");
                x.sheet(form, form, 24);
                e.due("write(0, " + form + ")", x.write(0, form), 24);
                for (int hour = 0; hour < 24; hour++) {
                    int want = hour == 0 ? 4 : hour == 3 ? third[law] : hour == 23 ? 5 : 0;
                    e.due("law " + law + ", form " + form + ": item " + hour, x.get(form, form, hour), want);
                }
            }
        }
        e.promise(39, "as many as there are items, 24 at most: how many.");
        for (int n : new int[] {0, 1, 23, 24, 25, 60}) {
            OthersHours x = new OthersHours();
            x.sheet(3, 1, n);
            for (int i = 0; i < n; i++) {
                x.lay(3, 1, i, 99);
            }
            e.due("write(5, 3) of " + n, x.write(5, 3), Math.min(n, 24));
            for (int i = 0; i < n; i++) {
                e.due("of " + n + ": item " + i, x.get(3, 1, i), i < 24 ? 5 : 99);
            }
            e.due("it has as many as before", x.lose(3), n);
        }
        e.promise(39, "BAD; NULL.");
        e.range("write(body, 0)", 0, 5, (o, v) -> o.write(v, 0));
        e.range("write(0, s)", 0, 3, (o, v) -> o.write(0, v));
        e.refused("write(0, 3) of a lost one", Edges::busy, o -> o.write(0, 3), -11, 1);
        e.refused("BAD ahead of NULL: write(6, 3)", Edges::busy, o -> o.write(6, 3), -2, Edges.FOUND);
        e.refused("BAD ahead of NULL: write(-1, 3)", Edges::busy, o -> o.write(-1, 3), -2, Edges.FOUND);
    }

    private void countsAre(String name, OthersHours x, int... want) {
        for (int what = 0; what < want.length; what++) {
            e.due(name + ": count(" + what + ")", x.count(what), want[what]);
        }
    }

    private void count() {
        e.promise(40, "0 GRANTS, 1 ORDERS, 2, 3 bytes of texts, 4 ORDERS that are DONE, 5 SEEN, 6 LAW,");
        countsAre("new", new OthersHours(), 0, 0, 0, 0, 0, 0, 0, 0, 0);
        OthersHours x = Edges.byLaw(2, Edges.grants(20), Edges.orders(15) + ";10001");
        for (int i = 0; i < 8; i++) {
            x.seen(0, 0, 0);
        }
        countsAre("the most", x, 20, 16, 99, 95, 16, 8, 2, 0, 0);
        x.setLaw(1);
        x.undo(0);
        x.undo(1);
        x.forget();
        countsAre("less", x, 19, 15, 94, 89, 15, 0, 1, 0, 0);
        countsAre("not done", Checks.with("", "10001;00001;00002"), 0, 3, 0, 17, 1);
        Checks.type(x, 0, "x");
        Checks.type(x, 1, "x");
        countsAre("faulty", x, 0, 0, 95, 90, 0, 0, 1, 0, 0);
        e.promise(40, "7 HOURS of BODIES that come round by LAW 0,");
        String[] texts = {"0001", "0000", "0001;1000", "0231;1230;2230", "0001;1002;2003;3004;4005;5000",
            "0001;1000;0231;1230", "0001;1002;2000;0011;1012;2010;0021;1022;2020;0031;1032;2030;0041;1042;2040"};
        int[] rounds = {0, 0, 2, 3, 6, 4, 15};
        for (int law = 0; law < 3; law++) {
            for (int i = 0; i < texts.length; i++) {
                OthersHours y = Edges.byLaw(law, texts[i], "");
                e.due("law " + law + ", " + texts[i] + ": count(7)", y.count(7), rounds[i]);
            }
        }
    }

    private void latestFinding() {
        e.promise(40, "8 the number of the latest FINDING (0 before any).");
        OthersHours x = new OthersHours();
        e.due("before any", x.count(8), 0);
        x.type(2, 0);
        x.undo(0);
        x.get(4, 0, 0);
        x.sheet(0, 0, 61);
        e.due("BAD and NOT are none", x.count(8), 0);
        x.lose(0);
        e.due("NULL", x.count(8), 1);
        x.sheet(0, 0, 2);
        x.sheet(1, 1, 2);
        e.due("it stays behind what is well", x.count(8), 1);
        x.lay(0, 0, 2, 0);
        e.due("INDEX", x.count(8), 2);
        x.get(0, 1, 0);
        e.due("CAST", x.count(8), 3);
        x.copy(0, 0, 1, 0, 1);
        e.due("STORE", x.count(8), 4);
        x.sheet(0, 0, -1);
        e.due("SIZE", x.count(8), 5);
        x.get(3, 0, 0);
        e.due("NULL again", x.count(8), 1);
        e.promise(40, "BAD.");
        e.range("count(what)", 0, 8, (o, v) -> o.count(v));
    }

    private void digestIs(String name, String grants, String orders, int law) {
        OthersHours x = new OthersHours();
        Model m = new Model();
        for (int text = 0; text < 2; text++) {
            for (char b : (text == 0 ? grants : orders).toCharArray()) {
                x.type(text, b);
                m.type(text, b);
            }
        }
        x.setLaw(law);
        m.setLaw(law);
        for (int i = 0; i < 6; i++) {
            x.home(i, i / 2 * 3);
            m.home(i, i / 2 * 3);
            x.seen(i, i * 4, i % 2);
            m.seen(i, i * 4, i % 2);
            x.worth(i, 23 - i, i);
            m.worth(i, 23 - i, i);
        }
        e.due(name + ", law " + law + ": digest()", x.digest(), m.digest());
    }

    private void digest() {
        e.promise(41, "h is 17; h becomes 31 h and each of: count() 0 to 7; of texts fault(); judged(), "
            + "of PERSONS free(), holds(), of HOURS 0, 9, 20 owns(it, hour), acts(), deep(), body(it, hour, 0 to 2); "
            + "soonest(it, 9), fewest(it, 9, 0 and 1), run(it, 0 to 3), heir(it, 0) (as it is told); "
            + "of LAWS wronged(); gentlest(), met(0, 1), slips(0, 1), trades(), word(), of GRANTS frees(); suspects(), likely(); "
            + "as longs that wrap.");
        e.due("new", new OthersHours().digest(), new Model().digest());
        OthersHours x = new OthersHours();
        long before = x.digest();
        x.lose(0);
        e.due("count() 8 is no part", x.digest(), before);
        x.sheet(0, 0, 60);
        x.worth(0, 0, 9);
        e.due("nor are sheets, nor worths without grants", x.digest(), before);
        StringBuilder nine = new StringBuilder("2231");
        for (int hour = 0; hour < 16; hour++) {
            nine.append(";1").append(Edges.figures(hour)).append('0');
        }
        for (int law = 0; law < 3; law++) {
            digestIs("just nine hours of 1, in two bodies", nine.toString(), "", law);
            digestIs("just nine hours of 1, in its own", nine.substring(5, nine.length() - 5), "", law);
            digestIs("nothing told", "", "", law);
            digestIs("twenty grants", Edges.grants(20), Edges.orders(16), law);
            digestIs("texts with faults", "0031;1042;", "0000", law);
            digestIs("rings", "0001;1000;0095;1094;4090;5091;2201;1202;0205", "00001;10092;00093;55202;33012", law);
            digestIs("trades", "0231;0220;3231;1220", "11002;00012", law);
        }
    }
}
