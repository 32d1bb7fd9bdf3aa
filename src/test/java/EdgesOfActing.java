/** Sentences of who acts, through how many, where and how often; promises 10 to 16. */
final class EdgesOfActing {
    private static final int[] ALL = {0, 1, 2, 3, 4, 5};
    private final Edges e;

    EdgesOfActing(Edges e) {
        this.e = e;
    }

    void tell() {
        lawOfChains();
        comesRound();
        lawOfOwners();
        lawOfRings();
        deep();
        free();
        holds();
        wronged();
        gentlest();
        questions();
    }

    private static String chainOf(int hour, int links) {
        return Edges.chain(hour, java.util.Arrays.copyOf(ALL, links + 1));
    }

    private static String ringOf(int hour, int bodies) {
        int[] round = java.util.Arrays.copyOf(ALL, bodies + 1);
        round[bodies] = 0;
        return Edges.chain(hour, round);
    }

    /** 5 hangs on 4, that on 3, that on 2, that on 0, which is in a ring with 1. */
    private static String tailOf(int hour) {
        return Edges.chain(hour, 5, 4, 3, 2, 0, 1, 0);
    }

    private void actsAre(String name, OthersHours x, int hour, int... want) {
        for (int body = 0; body < 6; body++) {
            e.due(name + ": acts(" + body + ", " + hour + ")", x.acts(body, hour), want[body]);
        }
    }

    private void lawOfChains() {
        e.terms("who ACTS in a BODY in an HOUR: 0 who OWNS it, but if the HOUR of the owner's BODY is another one's, "
            + "that one, and so on, till one OWNS the HOUR of its own BODY");
        for (int hour : new int[] {0, 23}) {
            for (int links = 0; links <= 5; links++) {
                int[] want = new int[6];
                for (int body = 0; body < 6; body++) {
                    want[body] = body < links ? links : body;
                }
                actsAre("a chain of " + links, Checks.with(chainOf(hour, links), ""), hour, want);
            }
            OthersHours x = Checks.with(chainOf(hour, 5), "");
            actsAre("another hour of it", x, hour == 0 ? 1 : 22, ALL);
            actsAre("downward", Checks.with(Edges.chain(hour, 5, 4, 3, 2, 1, 0), ""), hour, 0, 0, 0, 0, 0, 0);
        }
        actsAre("two to one", Checks.with("0072;1072;2073", ""), 7, 3, 3, 3, 3, 4, 5);
        actsAre("told its own", Checks.with("0071;1071", ""), 7, 1, 1, 2, 3, 4, 5);
    }

    private void comesRound() {
        e.terms("(NONE: that comes round);");
        actsAre("one alone is no ring", Checks.with(ringOf(7, 1), ""), 7, ALL);
        for (int bodies = 2; bodies <= 6; bodies++) {
            int[] want = new int[6];
            for (int body = 0; body < 6; body++) {
                want[body] = body < bodies ? -1 : body;
            }
            actsAre("a ring of " + bodies, Checks.with(ringOf(7, bodies), ""), 7, want);
        }
        actsAre("what hangs on a ring", Checks.with(tailOf(7), ""), 7, -1, -1, -1, -1, -1, -1);
        actsAre("a ring beside a chain", Checks.with("0071;1070;2073;4073", ""), 7, -1, -1, 3, 3, 3, 5);
        actsAre("not in one hour", Checks.with("0071;1080", ""), 7, 1, 1, 2, 3, 4, 5);
    }

    private void lawOfOwners() {
        e.terms("1 who OWNS it;");
        actsAre("a chain", Edges.byLaw(1, chainOf(7, 5), ""), 7, 1, 2, 3, 4, 5, 5);
        actsAre("a ring", Edges.byLaw(1, ringOf(7, 6), ""), 7, 1, 2, 3, 4, 5, 0);
        actsAre("what hangs on a ring", Edges.byLaw(1, tailOf(7), ""), 7, 1, 0, 0, 2, 3, 4);
        actsAre("nothing granted", Edges.byLaw(1, "", ""), 7, ALL);
    }

    private void lawOfRings() {
        e.terms("2 as 0, but where it comes round the BODY's own PERSON.");
        actsAre("a chain", Edges.byLaw(2, chainOf(7, 5), ""), 7, 5, 5, 5, 5, 5, 5);
        for (int bodies = 1; bodies <= 6; bodies++) {
            actsAre("a ring of " + bodies, Edges.byLaw(2, ringOf(7, bodies), ""), 7, ALL);
        }
        actsAre("what hangs on a ring", Edges.byLaw(2, tailOf(7), ""), 7, ALL);
        actsAre("a ring beside a chain", Edges.byLaw(2, "0071;1070;2073;4073", ""), 7, 0, 1, 3, 3, 3, 5);
    }

    private void deep() {
        e.terms("DEEP: through how many the one who ACTS comes to the BODY by LAW 0 "
            + "(0: its own PERSON; 1: the owner itself; 2: through one more, ..):");
        for (int law = 0; law < 3; law++) {
            OthersHours x = Edges.byLaw(law, chainOf(0, 5) + ";" + chainOf(23, 2), "");
            for (int body = 0; body < 6; body++) {
                e.due("law " + law + ": deep(" + body + ", 0)", x.deep(body, 0), 5 - body);
                e.due("law " + law + ": deep(" + body + ", 23)", x.deep(body, 23), Math.max(0, 2 - body));
                e.due("law " + law + ": deep(" + body + ", 1)", x.deep(body, 1), 0);
            }
        }
        e.due("told its own: deep(4, 9)", Checks.with("4094", "").deep(4, 9), 0);
        e.terms("NONE, where it comes round.");
        for (int law = 0; law < 3; law++) {
            for (int bodies = 2; bodies <= 6; bodies++) {
                OthersHours x = Edges.byLaw(law, ringOf(7, bodies), "");
                for (int body = 0; body < 6; body++) {
                    e.due("a ring of " + bodies + ": deep(" + body + ", 7)", x.deep(body, 7), body < bodies ? -1 : 0);
                }
                e.due("a ring of " + bodies + ": count(7)", x.count(7), bodies);
            }
            OthersHours tail = Edges.byLaw(law, tailOf(7), "");
            for (int body = 0; body < 6; body++) {
                e.due("what hangs on a ring: deep(" + body + ", 7)", tail.deep(body, 7), -1);
            }
        }
    }

    private void free() {
        e.terms("FREE HOURS of a BODY: those in which its own PERSON ACTS in it, as bits.");
        e.due("all: free(0)", new OthersHours().free(0), Edges.DAY);
        OthersHours ends = Checks.with("0001;0231", "");
        e.due("the ends: free(0)", ends.free(0), Edges.DAY & ~Checks.bits(0, 23));
        e.due("who acts there loses none of its own: free(1)", ends.free(1), Edges.DAY);
        e.due("the fewest: free(0)", Checks.with(Edges.grants(20), "").free(0), Checks.bits(20, 21, 22, 23));
        e.due("told its own: free(2)", Checks.with("2052", "").free(2), Edges.DAY);
        int[] ring = {Edges.DAY & ~Checks.bits(7), Edges.DAY & ~Checks.bits(7), Edges.DAY};
        for (int law = 0; law < 3; law++) {
            e.due("law " + law + ", a ring: free(5)", Edges.byLaw(law, ringOf(7, 6), "").free(5), ring[law]);
            e.due("law " + law + ", what hangs on one: free(5)", Edges.byLaw(law, tailOf(7), "").free(5), ring[law]);
        }
    }

    private void holds() {
        e.terms("HOLDS of a PERSON: how many HOURS of all BODIES it ACTS in.");
        e.due("its own: holds(5)", new OthersHours().holds(5), 24);
        for (int law = 0; law < 3; law++) {
            OthersHours x = Edges.byLaw(law, Edges.grants(20), "");
            e.due("the fewest: holds(0)", x.holds(0), 4);
            e.due("the most: holds(1)", x.holds(1), 44);
            OthersHours ring = Edges.byLaw(law, ringOf(7, 2), "");
            e.due("law " + law + ", a ring: holds(0)", ring.holds(0), law == 0 ? 23 : 24);
            OthersHours chain = Edges.byLaw(law, chainOf(7, 5), "");
            e.due("law " + law + ", a chain: holds(5)", chain.holds(5), law == 1 ? 25 : 29);
            e.due("law " + law + ", a chain: holds(1)", chain.holds(1), law == 1 ? 24 : 23);
        }
        OthersHours ends = Checks.with("0001;5231", "");
        e.due("the first and the last of all: holds(1)", ends.holds(1), 26);
    }

    private void wronged() {
        e.terms("WRONGED of a LAW: HOURS of BODIES, together, in which another one than its own PERSON ACTS, "
            + "or nobody.");
        int[][] want = {{0, 0, 0}, {1, 1, 1}, {20, 20, 20}, {5, 5, 5}, {6, 6, 0}, {6, 6, 0}, {0, 0, 0}, {2, 2, 2}};
        String[] texts = {"", "0001", Edges.grants(20), chainOf(7, 5), ringOf(7, 6), tailOf(7), "3033", "0001;5230"};
        for (int i = 0; i < texts.length; i++) {
            for (int law = 0; law < 3; law++) {
                for (int now = 0; now < 3; now++) {
                    OthersHours x = Edges.byLaw(now, texts[i], "");
                    e.due(texts[i] + ": wronged(" + law + ") by " + now, x.wronged(law), want[i][law]);
                }
            }
        }
    }

    private void gentlest() {
        e.terms("GENTLEST: the LAW by which the fewest are WRONGED, of like ones the least.");
        for (int now = 0; now < 3; now++) {
            e.due("none: gentlest()", Edges.byLaw(now, "", "").gentlest(), 0);
            e.due("alike: gentlest()", Edges.byLaw(now, chainOf(7, 5), "").gentlest(), 0);
            e.due("twenty alike: gentlest()", Edges.byLaw(now, Edges.grants(20), "").gentlest(), 0);
            e.due("the least ring: gentlest()", Edges.byLaw(now, ringOf(7, 2), "").gentlest(), 2);
            e.due("a ring and more: gentlest()", Edges.byLaw(now, ringOf(7, 2) + ";5230;4230", "").gentlest(), 2);
        }
    }

    private void questions() {
        OthersHours x = Checks.with("0005;5230;2071;1072", "");
        e.promise(10, "Who OWNS an HOUR of a BODY.");
        e.due("owns(0, 0)", x.owns(0, 0), 5);
        e.due("owns(5, 23)", x.owns(5, 23), 0);
        e.due("owns(2, 7)", x.owns(2, 7), 1);
        e.promise(10, "BAD.");
        e.range("owns(body, 3)", 0, 5, (o, v) -> o.owns(v, 3));
        e.range("owns(3, hour)", 0, 23, (o, v) -> o.owns(3, v));
        e.promise(11, "Who ACTS; NONE.");
        e.due("acts(0, 0)", x.acts(0, 0), 5);
        e.due("acts(5, 23)", x.acts(5, 23), 0);
        e.due("acts(2, 7)", x.acts(2, 7), -1);
        e.promise(11, "BAD.");
        e.range("acts(body, 3)", 0, 5, (o, v) -> o.acts(v, 3));
        e.range("acts(3, hour)", 0, 23, (o, v) -> o.acts(3, v));
        e.promise(12, "DEEP; NONE.");
        e.due("deep(0, 0)", x.deep(0, 0), 1);
        e.due("deep(2, 7)", x.deep(2, 7), -1);
        e.promise(12, "BAD.");
        e.range("deep(body, 3)", 0, 5, (o, v) -> o.deep(v, 3));
        e.range("deep(3, hour)", 0, 23, (o, v) -> o.deep(3, v));
        e.promise(13, "FREE HOURS of a BODY, as bits.");
        e.due("free(0)", x.free(0), Edges.DAY - 1);
        e.due("free(5)", x.free(5), Edges.DAY >> 1);
        e.promise(13, "BAD.");
        e.range("free(body)", 0, 5, (o, v) -> o.free(v));
        e.promise(14, "HOLDS.");
        e.due("holds(0)", x.holds(0), 24);
        e.due("holds(1)", x.holds(1), 23);
        e.due("holds(5)", x.holds(5), 24);
        e.promise(14, "BAD.");
        e.range("holds(person)", 0, 5, (o, v) -> o.holds(v));
        e.promise(15, "WRONGED of a LAW.");
        e.due("wronged(0)", x.wronged(0), 4);
        e.due("wronged(2)", x.wronged(2), 2);
        e.promise(15, "BAD.");
        e.range("wronged(law)", 0, 2, (o, v) -> o.wronged(v));
        e.promise(16, "GENTLEST.");
        e.due("gentlest()", x.gentlest(), 2);
        e.due("gentlest() of a new one", new OthersHours().gentlest(), 0);
    }
}
