/** Sentences of trades and of grants that are not told; promises 25 to 28. */
final class EdgesOfTrades {
    private final Edges e;

    EdgesOfTrades(Edges e) {
        this.e = e;
    }

    void tell() {
        trade();
        tradeCall();
        firstTwelve();
        pairs();
        mostPairs();
        frees();
        freesCall();
        word();
    }

    /** 1 owns hour 3 of body 0, 0 hour 5 of body 2; each has a worth of each. */
    private static int tradeWith(int oneHas, int oneGets, int twoHas, int twoGets) {
        OthersHours x = Checks.with("0031;2050", "");
        x.worth(1, 3, oneHas);
        x.worth(1, 5, oneGets);
        x.worth(0, 5, twoHas);
        x.worth(0, 3, twoGets);
        return x.trade(0, 3, 2, 5);
    }

    private void trade() {
        e.terms("TRADE: whether two would change two HOURS of BODIES that they OWN:");
        OthersHours x = Checks.with("0031;1032", "");
        x.worth(1, 5, 1);
        x.worth(4, 3, 1);
        e.due("who owns it, not who acts: trade(0, 3, 4, 5)", x.trade(0, 3, 4, 5), 1);
        e.due("the owner of the other: trade(1, 3, 4, 5)", x.trade(1, 3, 4, 5), 0);
        x.worth(2, 5, 1);
        e.due("the owner of the other: trade(1, 3, 4, 5)", x.trade(1, 3, 4, 5), 1);
        e.due("not the body's own: trade(0, 3, 5, 5)", x.trade(0, 3, 5, 5), 0);
        e.terms("each gets what is truly more worth to it: 1, 0.");
        e.due("9 for 8 both ways", tradeWith(8, 9, 8, 9), 1);
        e.due("1 for 0 both ways", tradeWith(0, 1, 0, 1), 1);
        e.due("9 for 0 both ways", tradeWith(0, 9, 0, 9), 1);
        e.due("alike to the first", tradeWith(5, 5, 4, 5), 0);
        e.due("alike to the second", tradeWith(4, 5, 5, 5), 0);
        e.due("alike to both", tradeWith(9, 9, 9, 9), 0);
        e.due("less to the first", tradeWith(5, 4, 4, 5), 0);
        e.due("less to the second", tradeWith(4, 5, 5, 4), 0);
        e.due("nothing to anybody", tradeWith(0, 0, 0, 0), 0);
        OthersHours one = Checks.with("0031;2030", "");
        one.worth(1, 3, 9);
        e.due("one hour of two bodies is alike: trade(0, 3, 2, 3)", one.trade(0, 3, 2, 3), 0);
    }

    private void tradeCall() {
        e.promise(25, "TRADE of HOURS of two BODIES.");
        OthersHours x = new OthersHours();
        x.worth(0, 23, 1);
        x.worth(5, 0, 1);
        e.due("trade(0, 0, 5, 23)", x.trade(0, 0, 5, 23), 1);
        e.due("trade(5, 23, 0, 0)", x.trade(5, 23, 0, 0), 1);
        e.due("trade(0, 23, 5, 0)", x.trade(0, 23, 5, 0), 0);
        e.promise(25, "BAD; NOT: one PERSON OWNS both.");
        e.range("trade(a, 1, 1, 2)", 0, 5, (o, v) -> o.trade(v, 1, 1, 2));
        e.range("trade(1, hour, 2, 2)", 0, 23, (o, v) -> o.trade(1, v, 2, 2));
        e.range("trade(1, 1, b, 2)", 0, 5, (o, v) -> o.trade(1, 1, v, 2));
        e.range("trade(1, 1, 2, other)", 0, 23, (o, v) -> o.trade(1, 1, 2, v));
        e.refused("trade(1, 1, 1, 1)", Edges::busy, o -> o.trade(1, 1, 1, 1), -3, Edges.FOUND);
        e.refused("trade(1, 1, 1, 2)", Edges::busy, o -> o.trade(1, 1, 1, 2), -3, Edges.FOUND);
        e.refused("0 by 1, and 1's own: trade(0, 3, 1, 1)", Edges::busy, o -> o.trade(0, 3, 1, 1), -3, Edges.FOUND);
        e.refused("BAD ahead of NOT: trade(1, 1, 1, 24)", Edges::busy, o -> o.trade(1, 1, 1, 24), -2, Edges.FOUND);
        e.refused("BAD ahead of NOT: trade(1, -1, 1, 1)", Edges::busy, o -> o.trade(1, -1, 1, 1), -2, Edges.FOUND);
        e.due("two hours of one body, by two: trade(0, 3, 0, 4)", Edges.busy().trade(0, 3, 0, 4), 0);
    }

    /** Grants of even hours to 0, of odd ones to 1; each likes the other's. */
    private static OthersHours eager(int... hours) {
        StringBuilder text = new StringBuilder();
        for (int i = 0; i < hours.length; i++) {
            text.append(i == 0 ? "" : ";").append(2 + i % 4).append(Edges.figures(hours[i])).append(hours[i] % 2);
        }
        OthersHours x = Checks.with(text.toString(), "");
        for (int hour = 0; hour < 24; hour++) {
            x.worth(1 - hour % 2, hour, 1);
        }
        return x;
    }

    private void firstTwelve() {
        e.terms("BEST TRADES: of the first twelve GRANTS at most,");
        e.due("no grants", new OthersHours().trades(), 0);
        e.due("faulty ones", Checks.with("0000;1011;", "").trades(), 0);
        e.due("one", eager(0).trades(), 0);
        e.due("the eleventh", eager(0, 2, 4, 6, 8, 10, 12, 14, 16, 18, 1).trades(), 1);
        e.due("the twelfth", eager(0, 2, 4, 6, 8, 10, 12, 14, 16, 18, 20, 1).trades(), 1);
        e.due("the thirteenth", eager(0, 2, 4, 6, 8, 10, 12, 14, 16, 18, 20, 22, 1).trades(), 0);
        e.due("twenty", eager(0, 1, 2, 3, 4, 5, 6, 7, 8, 9, 10, 11, 12, 13, 14, 15, 16, 17, 18, 19).trades(), 6);
        e.due("thirteen, the first left out", eager(1, 3, 5, 7, 9, 11, 13, 15, 17, 19, 21, 0, 2).trades(), 1);
    }

    private void pairs() {
        e.terms("set two by two, each in one pair at most,");
        e.due("one with three", eager(0, 1, 3, 5).trades(), 1);
        e.due("one with eleven", eager(0, 1, 3, 5, 7, 9, 11, 13, 15, 17, 19, 21).trades(), 1);
        e.due("the last with eleven", eager(1, 3, 5, 7, 9, 11, 13, 15, 17, 19, 21, 0).trades(), 1);
        e.due("two with three", eager(0, 2, 1, 3, 5).trades(), 2);
        e.due("an odd number", eager(0, 1, 2, 3, 4).trades(), 2);
        e.terms("only such as would TRADE (their HOURS of their BODIES):");
        e.due("those of one person", eager(0, 2, 4, 6).trades(), 0);
        OthersHours shy = eager(0, 1);
        shy.worth(0, 0, 1);
        e.due("one gains nothing", shy.trades(), 0);
        shy.worth(0, 1, 2);
        e.due("it gains again", shy.trades(), 1);
        OthersHours just = Checks.with("2050;3071", "");
        just.worth(0, 7, 1);
        just.worth(1, 5, 1);
        e.due("just these hours", just.trades(), 1);
        OthersHours others = Checks.with("2050;3071", "");
        others.worth(0, 3, 1);
        others.worth(1, 2, 1);
        e.due("not others", others.trades(), 0);
        OthersHours own = Checks.with("0000;1011", "");
        own.worth(0, 1, 1);
        own.worth(1, 0, 1);
        e.due("told their own", own.trades(), 1);
        own.undo(0);
        e.due("of one that's left", own.trades(), 0);
    }

    /** In hour i of body 0 it's i's, and each likes just these others'. */
    private static OthersHours liking(int[]... likes) {
        StringBuilder text = new StringBuilder();
        OthersHours x = new OthersHours();
        for (int i = 0; i < likes.length; i++) {
            text.append(i == 0 ? "" : ";").append("00").append(i).append(i);
            for (int other : likes[i]) {
                x.worth(i, other, 1);
            }
        }
        Checks.type(x, 0, text.toString());
        return x;
    }

    private void mostPairs() {
        e.terms("would TRADE (their HOURS of their BODIES): the most pairs.");
        e.due("six", eager(0, 2, 4, 6, 8, 10, 1, 3, 5, 7, 9, 11).trades(), 6);
        e.due("a row of four, begun in the middle",
            liking(new int[] {1, 2}, new int[] {0, 3}, new int[] {0}, new int[] {1}).trades(), 2);
        e.due("a row of six, begun in the middle", liking(new int[] {1, 2}, new int[] {0, 3}, new int[] {0, 4},
            new int[] {1, 5}, new int[] {2}, new int[] {3}).trades(), 3);
        e.due("a ring of five", liking(new int[] {1, 4}, new int[] {0, 2}, new int[] {1, 3}, new int[] {2, 4},
            new int[] {3, 0}).trades(), 2);
        e.due("two threes, joined", liking(new int[] {1, 2, 3}, new int[] {0, 2}, new int[] {0, 1},
            new int[] {4, 5, 0}, new int[] {3, 5}, new int[] {3, 4}).trades(), 3);
        e.due("the first likes nobody", liking(new int[] {}, new int[] {2}, new int[] {1}).trades(), 1);
        e.due("three, and two beside them", liking(new int[] {1, 2}, new int[] {0}, new int[] {0}, new int[] {4},
            new int[] {3}).trades(), 2);
        OthersHours left = eager(0, 1, 2, 3, 4, 5);
        e.due("of six", left.trades(), 3);
        left.undo(0);
        left.undo(0);
        e.due("of four that are left", left.trades(), 2);
        left.wipe(0);
        e.due("of none that are left", left.trades(), 0);
        OthersHours fewer = eager(0, 1, 2, 3, 4, 5);
        for (int pairs : new int[] {3, 2, 2, 1, 1, 0, 0}) {
            e.due("of fewer and fewer", fewer.trades(), pairs);
            fewer.undo(0);
        }
        e.promise(26, "BEST TRADES.");
        e.due("none", new OthersHours().trades(), 0);
        e.due("one pair", eager(0, 1).trades(), 1);
        OthersHours full = eager(0, 1, 2, 3, 4, 5, 6, 7, 8, 9, 10, 11);
        e.due("six pairs", full.trades(), 6);
        e.due("asked again", full.trades(), 6);
    }

    private void freesAre(String name, OthersHours x, int... want) {
        for (int grant = 0; grant < want.length; grant++) {
            e.due(name + ": frees(" + grant + ")", x.frees(grant), want[grant]);
        }
    }

    private void frees() {
        e.terms("FREES of a GRANT: how many fewer are WRONGED by the LAW as it is, were it not told");
        for (int law = 0; law < 3; law++) {
            freesAre("its own", Edges.byLaw(law, "0000", ""), 0);
            freesAre("the ends", Edges.byLaw(law, "0001;5230", ""), 1, 1);
            freesAre("a chain", Edges.byLaw(law, "0071;1072;2073;3074;4075", ""), 1, 1, 1, 1, 1);
            OthersHours x = Edges.byLaw(law, "0071;1072", "");
            freesAre("two", x, 1, 1);
            e.due("nothing is changed by it: wronged(0)", x.wronged(0), 2);
            e.due("nothing is changed by it: owns(0, 7)", x.owns(0, 7), 1);
        }
        e.terms("(perhaps below 0);");
        freesAre("a ring of two", Edges.byLaw(2, "0071;1070", ""), -1, -1);
        freesAre("a ring of six", Edges.byLaw(2, "0071;1072;2073;3074;4075;5070", ""), -5, -5, -5, -5, -5, -5);
        freesAre("a ring, and what hangs on it", Edges.byLaw(2, "0071;1070;2070", ""), -2, -2, 0);
        freesAre("a ring by law 0", Edges.byLaw(0, "0071;1070;2070", ""), 1, 1, 1);
        freesAre("a ring by law 1", Edges.byLaw(1, "0071;1070;2070", ""), 1, 1, 1);
    }

    private void freesCall() {
        e.promise(27, "FREES of a GRANT, as any number.");
        freesAre("one", Checks.with("0031", ""), 1);
        freesAre("one of a ring", Edges.byLaw(2, "0031;1032;2030", ""), -2, -2, -2);
        e.promise(27, "BAD: -1002.");
        e.range("frees(grant) of six", 0, 5, -1002, (o, v) -> o.frees(v));
        e.refused("frees(20) of twenty", Edges::full, o -> o.frees(20), -1002, Edges.FOUND);
        e.due("frees(19) of twenty", Edges.full().frees(19), 1);
        e.refused("frees(0) of none", OthersHours::new, o -> o.frees(0), -1002, 0);
        e.refused("frees(0) of faulty ones", () -> Checks.with("0031;", ""), o -> o.frees(0), -1002, 0);
        e.terms("Where any number is told, a refusal is -1000 less x.");
        e.due("frees(6) of six: -1000 less 2", Edges.busy().frees(6), -1000 + OthersHours.BAD);
        OthersHours two = Edges.byLaw(2, "0031;1032;2030", "");
        e.due("-2 is a number that is told: frees(0)", two.frees(0), OthersHours.BAD);
    }

    private void word() {
        e.terms("WORD: the GRANT that FREES most, of like ones the least;");
        e.due("one", Checks.with("0031", "").word(), 0);
        e.due("alike", Checks.with("0031;0041;0051", "").word(), 0);
        e.due("twenty alike", Checks.with(Edges.grants(20), "").word(), 0);
        e.due("its own frees none", Checks.with("0000;0011;0021", "").word(), 1);
        e.due("one that frees none", Checks.with("0000", "").word(), 0);
        e.due("two that free none", Checks.with("0000;1001", "").word(), 0);
        e.due("the last frees most", Checks.with("0000;0010;0021", "").word(), 2);
        e.due("all below 0", Edges.byLaw(2, "0031;1030", "").word(), 0);
        e.due("the least below 0", Edges.byLaw(2, "0031;1032;2030;3034;4033", "").word(), 3);
        e.due("none is better than below 0", Edges.byLaw(2, "0031;1030;5055", "").word(), 2);
        StringBuilder text = new StringBuilder();
        for (int hour = 0; hour < 19; hour++) {
            text.append('2').append(Edges.figures(hour)).append("2;");
        }
        e.due("the twentieth", Checks.with(text + "0001", "").word(), 19);
        e.terms("NONE: there are none.");
        e.due("new", new OthersHours().word(), -1);
        e.due("faulty", Checks.with("0031;", "").word(), -1);
        OthersHours undone = Checks.with("0031", "");
        undone.undo(0);
        e.due("undone", undone.word(), -1);
        e.promise(28, "WORD; NONE.");
        e.due("word()", Checks.with("3033;0031", "").word(), 1);
        e.due("word() of none", new OthersHours().word(), -1);
    }
}
