/** Sentences of persons and hours, of the two texts and their faults; promises 1 to 5. */
final class EdgesOfTexts {
    private final Edges e;

    EdgesOfTexts(Edges e) {
        this.e = e;
    }

    void tell() {
        persons();
        hours();
        lastCall();
        grantText();
        grantFigures();
        faults();
        faultsOfHours();
        grantedAlready();
        twentyFirst();
        faultyIsEmpty();
        orderText();
        orderFigures();
        newObject();
        type();
        wipe();
        undo();
        undoRefusals();
        fault();
    }

    private void persons() {
        e.terms("PERSONS are 0 to 5, each has a BODY with the same number;");
        OthersHours x = new OthersHours();
        for (int person = 0; person <= 5; person++) {
            e.due("owns(" + person + ", 0)", x.owns(person, 0), person);
            e.due("acts(" + person + ", 23)", x.acts(person, 23), person);
        }
        for (int none : new int[] {-1, 6}) {
            e.due("owns(" + none + ", 0)", x.owns(none, 0), -2);
            e.due("holds(" + none + ")", x.holds(none), -2);
            e.due("free(" + none + ")", x.free(none), -2);
        }
    }

    private void hours() {
        e.terms("HOURS are 0 to 23.");
        OthersHours x = Checks.with("0001;0231", "");
        e.due("owns(0, -1)", x.owns(0, -1), -2);
        e.due("owns(0, 0)", x.owns(0, 0), 1);
        e.due("owns(0, 1)", x.owns(0, 1), 0);
        e.due("owns(0, 22)", x.owns(0, 22), 0);
        e.due("owns(0, 23)", x.owns(0, 23), 1);
        e.due("owns(0, 24)", x.owns(0, 24), -2);
        e.due("free(5), all of them", x.free(5), Edges.DAY);
        e.due("the first of body 1 is not behind the last of body 0", x.owns(1, 0), 1);
    }

    private void lastCall() {
        e.terms("An object is used for at most 512 calls after it has been made; what later calls answer is free.");
        OthersHours x = new OthersHours();
        for (int round = 0; round < 5; round++) {
            for (int i = 1; i <= 99; i++) {
                e.due("call " + (round * 100 + i), x.type(round % 2, '0'), i);
            }
            e.due("call " + (round * 100 + 100), x.wipe(round % 2), 99);
        }
        for (int i = 1; i <= 12; i++) {
            e.due("call " + (500 + i), x.type(0, ';'), i);
        }
    }

    private void grantText() {
        e.terms("GRANTS are a text of up to 99 bytes (text 0),");
        OthersHours x = new OthersHours();
        for (int i = 1; i <= 99; i++) {
            e.due("byte " + i, x.type(0, 'x'), i);
        }
        e.due("byte 100", x.type(0, 'x'), -4);
        e.due("count(2)", x.count(2), 99);
        e.terms("bytes (text 0), 20 at most (0 on), with ; between them:");
        for (int many : new int[] {0, 1, 2, 19, 20}) {
            OthersHours y = Checks.with(Edges.grants(many), "");
            e.due(many + " grants: count(0)", y.count(0), many);
            e.due(many + " grants: fault(0)", y.fault(0), -1);
            e.due("the one behind the last: frees(" + many + ")", y.frees(many), -1002);
            for (int grant = 0; grant < many; grant++) {
                e.due(many + " grants: frees(" + grant + ")", y.frees(grant), 1);
            }
        }
        e.faultOf(0, "00310041", 4);
        e.faultOf(0, "0031,0041", 4);
        e.faultOf(0, ";0031", 0);
        e.faultOf(0, "0031;;0041", 5);
        e.faultOf(0, "0031;", 5);
    }

    private void grantFigures() {
        e.terms("the figure of a BODY (0 to 5),");
        e.faultOf(0, "/000", 0);
        e.faultOf(0, "0000", -1);
        e.faultOf(0, "5000", -1);
        e.faultOf(0, "6000", 0);
        e.faultOf(0, "0000;/010", 5);
        e.faultOf(0, "0000;5010", -1);
        e.faultOf(0, "0000;6010", 5);
        e.terms("(0 to 5), two figures of an HOUR (00 to 23),");
        e.due("00: owns(4, 0)", Checks.with("4001", "").owns(4, 0), 1);
        e.due("09: owns(4, 9)", Checks.with("4091", "").owns(4, 9), 1);
        e.due("10: owns(4, 10)", Checks.with("4101", "").owns(4, 10), 1);
        e.due("19: owns(4, 19)", Checks.with("4191", "").owns(4, 19), 1);
        e.due("20: owns(4, 20)", Checks.with("4201", "").owns(4, 20), 1);
        e.due("23: owns(4, 23)", Checks.with("4231", "").owns(4, 23), 1);
        e.faultOf(0, "4241", 2);
        e.faultOf(0, "4/01", 1);
        e.faultOf(0, "40/1", 2);
        e.faultOf(0, "40:1", 2);
        e.faultOf(0, "41:1", 2);
        e.faultOf(0, "42/1", 2);
        e.terms("the figure of a PERSON (0 to 5) who OWNS that HOUR of that BODY;");
        e.faultOf(0, "307/", 3);
        e.due("0: owns(3, 7)", Checks.with("3070", "").owns(3, 7), 0);
        e.due("5: owns(3, 7)", Checks.with("3075", "").owns(3, 7), 5);
        e.due("3, its own: owns(3, 7)", Checks.with("3073", "").owns(3, 7), 3);
        e.faultOf(0, "3076", 3);
        e.terms("an HOUR of a BODY that no GRANT tells its own PERSON OWNS.");
        OthersHours x = Checks.with("2115", "");
        for (int body = 0; body < 6; body++) {
            for (int hour = 0; hour < 24; hour++) {
                int want = body == 2 && hour == 11 ? 5 : body;
                e.due("owns(" + body + ", " + hour + ")", x.owns(body, hour), want);
            }
        }
    }

    private void faults() {
        e.terms("The FAULT of a text is the place of the first byte with which it cannot go on");
        String well = "0031;1042";
        for (int at = 0; at < well.length(); at++) {
            for (int b : new int[] {0, ' ', 'x', 127, 128, 255, 176}) {
                e.faultOf(0, well.substring(0, at) + (char) b, at);
            }
        }
        e.faultOf(0, well + "0", 9);
        e.faultOf(0, "x0031;1042", 0);
        e.faultOf(0, "0031;x0;;;", 5);
        e.faultOf(0, "6;/", 0);
        e.faultOf(0, Edges.grants(20).substring(0, 98) + "6", 98);
        e.faultOf(1, "00031x", 5);
        e.faultOf(1, "x00031", 0);
        e.faultOf(1, Edges.orders(16) + "0", 95);
        e.terms("(an empty text is well;");
        for (int text = 0; text < 2; text++) {
            OthersHours x = new OthersHours();
            e.due("new: fault(" + text + ")", x.fault(text), -1);
            Checks.type(x, text, "x");
            e.due("x: fault(" + text + ")", x.fault(text), 0);
            x.wipe(text);
            e.due("wiped: fault(" + text + ")", x.fault(text), -1);
            Checks.type(x, text, text == 0 ? "0031" : "00031");
            x.undo(text);
            e.due("undone: fault(" + text + ")", x.fault(text), -1);
        }
        e.terms("of one that is not ended, its end),");
        String[] wells = {Edges.grants(20), Edges.orders(16) + ";000"};
        for (int text = 0; text < 2; text++) {
            OthersHours x = new OthersHours();
            for (int i = 1; i <= 99; i++) {
                x.type(text, wells[text].charAt(i - 1));
                boolean ended = i % (5 + text) == 4 + text;
                e.due("fault(" + text + ") of " + i + " bytes", x.fault(text), ended ? -1 : i);
            }
        }
    }

    private void faultsOfHours() {
        e.terms("here also of the second figure of an HOUR above 23");
        for (char figure = '0'; figure <= '9'; figure++) {
            boolean above = figure > '3';
            e.faultOf(0, "02" + figure + "1", above ? 2 : -1);
            e.faultOf(0, "1001;02" + figure + "1", above ? 7 : -1);
            e.faultOf(0, "01" + figure + "1", -1);
            e.faultOf(0, "00" + figure + "1", -1);
            e.faultOf(1, "002" + figure + "1", above ? 3 : -1);
            e.faultOf(1, "001" + figure + "1", -1);
        }
        e.terms("(its first, if that is above 2),");
        for (char figure = '0'; figure <= '9'; figure++) {
            boolean above = figure > '2';
            e.faultOf(0, "0" + figure + "01", above ? 1 : -1);
            e.faultOf(0, "0" + figure, above ? 1 : 2);
            e.faultOf(0, "1001;0" + figure + "01", above ? 6 : -1);
            e.faultOf(1, "00" + figure + "01", above ? 2 : -1);
        }
    }

    private void grantedAlready() {
        e.terms("of the PERSON, if that HOUR of that BODY was granted already,");
        e.faultOf(0, "0031;0032", 8);
        e.faultOf(0, "0031;0031", 8);
        e.faultOf(0, "0000;0001", 8);
        e.faultOf(0, "5231;5232", 8);
        e.faultOf(0, "0031;0032;4444", 8);
        e.faultOf(0, "0031;1031", -1);
        e.faultOf(0, "0031;0041", -1);
        e.faultOf(0, "0031;0131", -1);
        e.faultOf(0, "0031;0041;0051;0032", 18);
        e.faultOf(0, "0031;0041;0051;0052", 18);
        e.faultOf(0, Edges.grants(19) + ";0002", 98);
        e.faultOf(0, Edges.grants(19) + ";0182", 98);
        e.faultOf(1, "00031;00031", -1);
        OthersHours x = Checks.with("0031;0042", "");
        x.undo(0);
        Checks.type(x, 0, ";0043");
        e.due("undone, it's granted no more: owns(0, 4)", x.owns(0, 4), 3);
        x.wipe(0);
        Checks.type(x, 0, "0035");
        e.due("wiped, it's granted no more: owns(0, 3)", x.owns(0, 3), 5);
    }

    /** Twenty grants take all 99 bytes, and orders are longer: the first byte of one more finds no room. */
    private void twentyFirst() {
        e.terms("or of the first byte of a twenty-first.");
        OthersHours x = Checks.with(Edges.grants(20), "");
        e.due("bytes of twenty: count(2)", x.count(2), 99);
        e.due("the ; ahead of it", x.type(0, ';'), -4);
        e.due("its first byte", x.type(0, '0'), -4);
        e.due("twenty stay: count(0)", x.count(0), 20);
        e.due("and are well: fault(0)", x.fault(0), -1);
    }

    private void faultyIsEmpty() {
        e.terms("With a FAULT a text is as if it was empty.");
        OthersHours x = Checks.with("0031;1030;2041;", "00001;22002");
        e.due("grants: count(0)", x.count(0), 0);
        e.due("its bytes stay: count(2)", x.count(2), 15);
        e.due("owns(0, 3)", x.owns(0, 3), 0);
        e.due("acts(0, 3)", x.acts(0, 3), 0);
        e.due("deep(0, 3)", x.deep(0, 3), 0);
        e.due("wronged(0)", x.wronged(0), 0);
        e.due("count(7)", x.count(7), 0);
        e.due("frees(0)", x.frees(0), -1002);
        e.due("word()", x.word(), -1);
        e.due("heir(1, 5)", x.heir(1, 5), 24);
        e.due("undo(0)", x.undo(0), -3);
        e.due("the other text is as it was: count(1)", x.count(1), 2);
        Checks.type(x, 1, ";");
        e.due("orders: count(1)", x.count(1), 0);
        e.due("its bytes stay: count(3)", x.count(3), 12);
        e.due("count(4)", x.count(4), 0);
        e.due("done(0)", x.done(0), -2);
        e.due("judged()", x.judged(), -1);
        e.due("body(0, 0, 0)", x.body(0, 0, 0), 0);
        e.due("body(2, 0, 1)", x.body(2, 0, 1), 0);
        e.due("undo(1)", x.undo(1), -3);
        Checks.type(x, 0, "2051");
        e.due("gone on: count(0)", x.count(0), 4);
        e.due("gone on: acts(0, 3)", x.acts(0, 3), -1);
        Checks.type(x, 0, "x");
        e.due("the last byte too many: count(0)", x.count(0), 0);
        OthersHours y = Checks.with(Edges.grants(20).substring(0, 98) + "6", "");
        e.due("the last of 99 is wrong: count(0)", y.count(0), 0);
        e.due("the last of 99 is wrong: owns(0, 0)", y.owns(0, 0), 0);
    }

    private void orderText() {
        e.terms("ORDERS are a text of up to 99 bytes (text 1),");
        OthersHours x = new OthersHours();
        for (int i = 1; i <= 99; i++) {
            e.due("byte " + i, x.type(1, 'x'), i);
        }
        e.due("byte 100", x.type(1, 'x'), -4);
        e.due("count(3)", x.count(3), 99);
        e.due("the other text has room", x.type(0, 'x'), 1);
        // sixteen take 95 bytes, a seventeenth can't be ended
        e.terms("bytes (text 1), 20 at most (0 on), with ; between them:");
        for (int many : new int[] {0, 1, 2, 15, 16}) {
            OthersHours y = Checks.with("", Edges.orders(many));
            e.due(many + " orders: count(1)", y.count(1), many);
            e.due(many + " orders: fault(1)", y.fault(1), -1);
            e.due("the one behind the last: done(" + many + ")", y.done(many), -2);
            for (int order = 0; order < many; order++) {
                e.due(many + " orders: done(" + order + ")", y.done(order), 1);
            }
        }
        e.faultOf(1, Edges.orders(17).substring(0, 99), 99);
        e.faultOf(1, "0003100041", 5);
        e.faultOf(1, ";00031", 0);
        e.faultOf(1, "00031;;00041", 6);
        e.faultOf(1, "00031;", 6);
    }

    private void orderFigures() {
        e.terms("the figure of a PERSON who orders, of a BODY, two figures of an HOUR,");
        e.faultOf(1, "/0000", 0);
        e.faultOf(1, "50000", -1);
        e.faultOf(1, "60000", 0);
        e.faultOf(1, "0/000", 1);
        e.faultOf(1, "05000", -1);
        e.faultOf(1, "06000", 1);
        e.faultOf(1, "00/00", 2);
        e.faultOf(1, "00/", 2);
        e.faultOf(1, "000/0", 3);
        e.faultOf(1, "000:0", 3);
        e.faultOf(1, "00090", -1);
        e.faultOf(1, "00230", -1);
        e.faultOf(1, "00240", 3);
        e.faultOf(1, "00300", 2);
        e.due("who orders in whose: done(0)", Checks.with("5231", "15231").done(0), 1);
        e.due("its body: body(5, 23, 0)", Checks.with("5231", "15231").body(5, 23, 0), 1);
        e.due("not the other way: done(0)", Checks.with("5231", "51231").done(0), 0);
        e.terms("the figure of a DEED: 0 rest, 1 work, 2 walk up, 3 walk down, 4 hide.");
        e.faultOf(1, "0000/", 4);
        e.faultOf(1, "00005", 4);
        int[] places = {4, 4, 5, 3, 4};
        int[] tired = {0, 2, 1, 1, 0};
        for (int deed = 0; deed <= 4; deed++) {
            e.faultOf(1, "0000" + deed, -1);
            OthersHours x = Checks.with("", "0000" + deed);
            x.home(0, 4);
            e.due(deed + ": body(0, 0, 0)", x.body(0, 0, 0), deed);
            e.due(deed + ": body(0, 0, 1)", x.body(0, 0, 1), places[deed]);
            e.due(deed + ": body(0, 0, 2)", x.body(0, 0, 2), tired[deed]);
        }
    }

    private void newObject() {
        e.promise(1, "No GRANTS, no ORDERS;");
        OthersHours x = new OthersHours();
        for (int what = 0; what <= 8; what++) {
            e.due("count(" + what + ")", x.count(what), 0);
        }
        e.due("undo(0)", x.undo(0), -3);
        e.due("undo(1)", x.undo(1), -3);
        e.due("wipe(0)", x.wipe(0), 0);
        e.due("wipe(1)", x.wipe(1), 0);
        e.promise(1, "all SHEETS are LOST.");
        for (int s = 0; s < 4; s++) {
            e.due("lose(" + s + ")", new OthersHours().lose(s), -11);
            e.due("write(0, " + s + ")", new OthersHours().write(0, s), -11);
        }
    }

    private void type() {
        e.promise(2, "A byte (0 to 255) comes behind a text: how many.");
        OthersHours x = new OthersHours();
        e.due("type(0, 0)", x.type(0, 0), 1);
        e.due("type(0, 255)", x.type(0, 255), 2);
        e.due("type(1, 255)", x.type(1, 255), 1);
        e.due("type(1, 0)", x.type(1, 0), 2);
        e.range("type(text, 48)", 0, 1, (o, v) -> o.type(v, 48));
        e.range("type(0, b)", 0, 255, (o, v) -> o.type(0, v));
        e.range("type(1, b)", 0, 255, (o, v) -> o.type(1, v));
        e.promise(2, "BAD; FULL.");
        e.refused("type(0, 48) of 99", Edges::full, o -> o.type(0, 48), -4, Edges.FOUND);
        e.refused("type(1, 255) of 99", Edges::full, o -> o.type(1, 255), -4, Edges.FOUND);
        e.refused("type(0, 256) of 99", Edges::full, o -> o.type(0, 256), -2, Edges.FOUND);
        e.refused("type(0, -1) of 99", Edges::full, o -> o.type(0, -1), -2, Edges.FOUND);
        e.refused("type(2, 48) of 99", Edges::full, o -> o.type(2, 48), -2, Edges.FOUND);
        OthersHours y = Checks.with(Edges.grants(20).substring(0, 98), "");
        e.due("the byte that fills it", y.type(0, '1'), 99);
        e.due("none more", y.type(0, '1'), -4);
        y.wipe(0);
        e.due("wiped, there's room again", y.type(0, '1'), 1);
    }

    private void wipe() {
        e.promise(3, "A text is empty: how many bytes it had.");
        OthersHours x = Edges.full();
        e.due("wipe(0) of 99", x.wipe(0), 99);
        e.due("count(2)", x.count(2), 0);
        e.due("count(0)", x.count(0), 0);
        e.due("owns(0, 0)", x.owns(0, 0), 0);
        e.due("the other has its own: wipe(1)", x.wipe(1), 99);
        e.due("wipe(0) of none", x.wipe(0), 0);
        e.due("type(0, 48)", x.type(0, 48), 1);
        e.due("wipe(0) of one", x.wipe(0), 1);
        OthersHours y = Checks.with("0031", "22001");
        e.due("wipe(1)", y.wipe(1), 5);
        e.due("done(0)", y.done(0), -2);
        e.due("body(2, 0, 0)", y.body(2, 0, 0), 0);
        e.due("the grants stay: owns(0, 3)", y.owns(0, 3), 1);
        e.promise(3, "BAD.");
        e.range("wipe(text)", 0, 1, (o, v) -> o.wipe(v));
    }

    private void undo() {
        e.promise(4, "The last GRANT (text 0), ORDER (1) is undone, with the ; ahead of it: how many are left.");
        OthersHours x = Checks.with(Edges.grants(20), Edges.orders(16));
        for (int left = 19; left >= 0; left--) {
            e.due("undo(0)", x.undo(0), left);
            e.due("count(0)", x.count(0), left);
            e.due("count(2)", x.count(2), left == 0 ? 0 : left * 5 - 1);
            e.due("fault(0)", x.fault(0), -1);
            e.due("undone: owns(0, " + left + ")", x.owns(0, left), 0);
            e.due("the one ahead: owns(0, " + (left - 1) + ")", x.owns(0, left - 1), left == 0 ? -2 : 1);
        }
        for (int left = 15; left >= 0; left--) {
            e.due("undo(1)", x.undo(1), left);
            e.due("count(1)", x.count(1), left);
            e.due("count(3)", x.count(3), left == 0 ? 0 : left * 6 - 1);
            e.due("fault(1)", x.fault(1), -1);
            e.due("undone: body(2, " + left + ", 0)", x.body(2, left, 0), 0);
            e.due("the one ahead: body(2, " + (left - 1) + ", 0)", x.body(2, left - 1, 0), left == 0 ? -2 : 4);
        }
        Checks.type(x, 0, "0005;0014");
        e.due("begun again: undo(0)", x.undo(0), 1);
        Checks.type(x, 0, ";0013");
        e.due("gone on: owns(0, 1)", x.owns(0, 1), 3);
    }

    private void undoRefusals() {
        e.promise(4, "BAD; NOT: there are none.");
        e.range("undo(text)", 0, 1, (o, v) -> o.undo(v));
        e.refused("undo(0) of a new one", OthersHours::new, o -> o.undo(0), -3, 0);
        e.refused("undo(1) of a new one", OthersHours::new, o -> o.undo(1), -3, 0);
        e.refused("undo(0) of a faulty one", () -> Checks.with("0031;", ""), o -> o.undo(0), -3, 0);
        e.refused("undo(1) of a faulty one", () -> Checks.with("", "00031;0"), o -> o.undo(1), -3, 0);
        e.refused("undo(1) of a full, faulty one", Edges::full, o -> o.undo(1), -3, Edges.FOUND);
        e.refused("undo(0), orders alone", () -> Checks.with("", "00031"), o -> o.undo(0), -3, 0);
        e.refused("undo(2) where there are none", OthersHours::new, o -> o.undo(2), -2, 0);
    }

    private void fault() {
        e.promise(5, "The FAULT of a text; NONE.");
        OthersHours x = Checks.with("0031;x", "00031");
        e.due("fault(0)", x.fault(0), 5);
        e.due("fault(1)", x.fault(1), -1);
        OthersHours y = Checks.with("0031", "0003");
        e.due("fault(0)", y.fault(0), -1);
        e.due("fault(1)", y.fault(1), 4);
        e.promise(5, "BAD.");
        e.range("fault(text)", 0, 1, (o, v) -> o.fault(v));
    }
}
