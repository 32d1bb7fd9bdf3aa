/** Sentences of what was seen, who is suspected and which laws are likely; promises 30 to 33. */
final class EdgesOfSeen {
    private final Edges e;

    EdgesOfSeen(Edges e) {
        this.e = e;
    }

    void tell() {
        seen();
        seenCall();
        forget();
        suspects();
        likely();
        likelyByRest();
    }

    private void seen() {
        e.terms("SEEN, 8 at most: in an HOUR a BODY did a DEED.");
        OthersHours x = new OthersHours();
        for (int many = 1; many <= 8; many++) {
            e.due("seen(2, 5, 0)", x.seen(2, 5, 0), many);
        }
        e.due("a ninth", x.seen(2, 5, 0), -4);
        e.due("count(5)", x.count(5), 8);
        e.due("the first and the last of all", new OthersHours().seen(0, 0, 0), 1);
        e.due("the first and the last of all", new OthersHours().seen(5, 23, 4), 1);
        OthersHours y = new OthersHours();
        for (int body = 0; body < 8; body++) {
            y.seen(body == 7 ? 1 : 0, body, 0);
        }
        e.due("the eighth is looked at: suspects()", y.suspects(), 0);
        y.forget();
        for (int body = 0; body < 8; body++) {
            y.seen(0, body, body == 7 ? 1 : 0);
        }
        e.due("the eighth is looked at: likely()", y.likely(), 0);
    }

    private void seenCall() {
        e.promise(30, "SEEN more: how many.");
        OthersHours x = new OthersHours();
        e.due("seen(0, 0, 0)", x.seen(0, 0, 0), 1);
        e.due("the same again", x.seen(0, 0, 0), 2);
        e.due("against it", x.seen(0, 0, 1), 3);
        e.due("count(5)", x.count(5), 3);
        e.promise(30, "BAD; FULL.");
        e.range("seen(body, 3, 1)", 0, 5, (o, v) -> o.seen(v, 3, 1));
        e.range("seen(3, hour, 1)", 0, 23, (o, v) -> o.seen(3, v, 1));
        e.range("seen(3, 3, deed)", 0, 4, (o, v) -> o.seen(3, 3, v));
        e.refused("seen(3, 3, 1) of eight", Edges::full, o -> o.seen(3, 3, 1), -4, Edges.FOUND);
        e.refused("seen(6, 3, 1) of eight", Edges::full, o -> o.seen(6, 3, 1), -2, Edges.FOUND);
        e.refused("seen(3, 24, 1) of eight", Edges::full, o -> o.seen(3, 24, 1), -2, Edges.FOUND);
        e.refused("seen(3, 3, 5) of eight", Edges::full, o -> o.seen(3, 3, 5), -2, Edges.FOUND);
    }

    private void forget() {
        e.promise(31, "All SEEN are forgotten: how many.");
        OthersHours x = new OthersHours();
        e.due("of none", x.forget(), 0);
        x.seen(5, 5, 1);
        e.due("of one", x.forget(), 1);
        e.due("again", x.forget(), 0);
        OthersHours full = Edges.full();
        e.due("of eight", full.forget(), 8);
        e.due("count(5)", full.count(5), 0);
        e.due("suspects()", full.suspects(), 63);
        e.due("likely()", full.likely(), 7);
        for (int many = 1; many <= 8; many++) {
            e.due("there's room again", full.seen(4, 4, 0), many);
        }
        e.due("and none for a ninth", full.seen(4, 4, 0), -4);
        e.due("the old ones are gone: suspects()", full.suspects(), 16);
    }

    private void suspects() {
        e.terms("SUSPECTS of all that was SEEN: PERSONS who ACT, by the LAW as it is, in each of these BODIES "
            + "in that HOUR, as bits.");
        e.due("nothing was seen", new OthersHours().suspects(), 63);
        for (int person = 0; person < 6; person++) {
            OthersHours x = new OthersHours();
            x.seen(person, person * 4, 3);
            e.due("in its own body: " + person, x.suspects(), 1 << person);
        }
        int[] chain = {4, 2, 4};
        int[] ring = {0, 2, 1};
        for (int law = 0; law < 3; law++) {
            OthersHours x = Edges.byLaw(law, "0031;1032;0041;1040", "");
            x.seen(0, 3, 4);
            e.due("law " + law + ", a chain", x.suspects(), chain[law]);
            x.forget();
            x.seen(0, 4, 0);
            e.due("law " + law + ", a ring", x.suspects(), ring[law]);
        }
        OthersHours two = Checks.with("0235", "");
        two.seen(0, 23, 1);
        two.seen(5, 0, 0);
        e.due("in each of two", two.suspects(), 32);
        two.seen(0, 22, 0);
        e.due("in each of three, nobody", two.suspects(), 0);
        e.promise(32, "SUSPECTS, as bits.");
        OthersHours x = Checks.with("0031;1030", "");
        e.due("all", x.suspects(), 63);
        x.seen(5, 3, 0);
        e.due("one", x.suspects(), 32);
        x.seen(0, 3, 0);
        e.due("none", x.suspects(), 0);
    }

    /** In hour 3 of body 0 each law has another one act: by 0 nobody, by 1 person 1, by 2 person 0. */
    private static OthersHours ringWith(String orders, int deed) {
        OthersHours x = Checks.with("0031;1030", orders);
        x.seen(0, 3, deed);
        return x;
    }

    private void likely() {
        e.terms("LIKELY LAWS: those by which just what was SEEN is done then (by ORDERS), as bits.");
        e.due("nothing was seen", new OthersHours().likely(), 7);
        String orders = "10034;00032";
        int[] want = {1, 0, 4, 0, 2};
        for (int deed = 0; deed <= 4; deed++) {
            for (int law = 0; law < 3; law++) {
                OthersHours x = ringWith(orders, deed);
                x.setLaw(law);
                e.due("seen " + deed + ", whatever the law is", x.likely(), want[deed]);
            }
        }
        OthersHours all = Checks.with("0031;1032", "55231");
        all.seen(5, 23, 1);
        e.due("by all laws", all.likely(), 7);
        all.seen(5, 23, 0);
        e.due("one thing and another", all.likely(), 0);
        OthersHours each = Checks.with("", "00002;11014;22021");
        each.seen(0, 0, 2);
        each.seen(1, 1, 4);
        each.seen(2, 2, 1);
        each.seen(3, 3, 0);
        e.due("each with its own deed", each.likely(), 7);
        OthersHours first = Checks.with("", "00002");
        first.seen(0, 0, 2);
        e.due("the first hour of the first body", first.likely(), 7);
        e.promise(33, "LIKELY LAWS, as bits.");
        e.due("all", ringWith("", 0).likely(), 7);
        e.due("none", ringWith("", 1).likely(), 0);
        e.due("two", ringWith("00031", 0).likely(), 3);
        e.due("one", ringWith("00031", 1).likely(), 4);
    }

    private void likelyByRest() {
        // by law 1 body 0 works in hour 3 too, so that in hour 7 it is too tired for more
        OthersHours x = Checks.with("0031;1030", "10031;00041;00051;00061;00071");
        x.seen(0, 7, 1);
        e.due("not too tired", x.likely(), 5);
        x.forget();
        x.seen(0, 7, 0);
        e.due("too tired", x.likely(), 2);
        OthersHours told = ringWith("00030;10030", 0);
        e.due("a told rest and an untold one", told.likely(), 7);
    }
}
