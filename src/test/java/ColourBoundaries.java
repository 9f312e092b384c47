/** Promises 14 to 17, and the terms they stand on: each sentence that names a boundary. */
final class ColourBoundaries {
    private static final int BAD = -1;

    private final Sentences s;

    ColourBoundaries(Sentences s) {
        this.s = s;
    }

    void all() {
        leastColourThatIsFree();
        peelsAsLongAsThereAreNodes();
        fewestNeighboursGoFirst();
        coreIsTheMostUpToIt();

        coloursOfSet();
        coloursOfOtherNodes();
        colourOfNode();
        colourOfOtherNodesOrNotOfSet();
        peeledByNumber();
        peeledNoneSuch();
        coreOfNode();
        coreOfNoneSuch();
    }

    // ---- the terms

    private void leastColourThatIsFree() {
        s.term("14, 15", "its NODES by rising numbers, each gets the least COLOUR 1, 2, .. that "
                + "none of its NEIGHBOURS in the SET has yet.");
        // 3 is joined with 0 and 2, which have 1 and 3.
        CliqueSearch x = Nets.net(4, 0, 1, 0, 2, 1, 2, 3, 0, 3, 2);
        s.due("colour(15, 0): the least is 1", 1, x.colour(15, 0));
        s.due("colour(15, 1)", 2, x.colour(15, 1));
        s.due("colour(15, 2)", 3, x.colour(15, 2));
        s.due("colour(15, 3): the least between two", 2, x.colour(15, 3));
        s.due("colours(15)", 3, x.colours(15));
        s.due("colour({0, 2}, 2): 1 is not in the SET", 2, x.colour(Nets.set(0, 2), 2));
        s.due("colour({2}, 2): no NEIGHBOURS in the SET", 1, x.colour(Nets.set(2), 2));
        // By rising numbers 0 and 1 get 1 before 2 and 3 are looked at.
        CliqueSearch y = Nets.net(4, 0, 2, 2, 3, 3, 1);
        s.due("colour(15, 1): its NEIGHBOUR has none yet", 1, y.colour(15, 1));
        s.due("colour(15, 3): both others are taken", 3, y.colour(15, 3));
        s.due("colours(15): more than are needed", 3, y.colours(15));
    }

    private void peelsAsLongAsThereAreNodes() {
        s.term("16", "PEELING: as long as there are NODES");
        s.due("peeled(0) without NODES", BAD, new CliqueSearch().peeled(0));
        for (int n = 1; n <= 16; n++) {
            CliqueSearch x = Nets.star(n, 0);
            int gone = 0;
            for (int k = 0; k < n; k++) {
                gone |= 1 << x.peeled(k);
            }
            s.due("the NODES of a star of " + n + " that go", (1 << n) - 1, gone);
            s.due("peeled(" + n + ") of a star of " + n, BAD, x.peeled(n));
        }
    }

    private void fewestNeighboursGoFirst() {
        s.term("16", "one goes of those with the fewest NEIGHBOURS among those that are there, "
                + "the one with the least number.");
        peels("16 like ones", Nets.net(16), 0, 1, 2, 3, 4, 5, 6, 7, 8, 9, 10, 11, 12, 13, 14, 15);
        peels("the last has the fewest", Nets.net(3, 0, 1), 2, 0, 1);
        // Behind 0 its two NEIGHBOURS have one each, 1 being the lesser.
        peels("a ring of five", Nets.ring(5), 0, 1, 2, 3, 4);
        // Behind 1 and 2 the middle has one as 3 has, and the lesser number.
        peels("a star", Nets.star(4, 0), 1, 2, 0, 3);
        peels("a star of 16", Nets.star(16, 15), 0, 1, 2, 3, 4, 5, 6, 7, 8, 9, 10, 11, 12, 13, 14,
                15);
    }

    private void peels(String of, CliqueSearch x, int... order) {
        for (int k = 0; k < order.length; k++) {
            s.due("peeled(" + k + ") of " + of, order[k], x.peeled(k));
        }
    }

    private void coreIsTheMostUpToIt() {
        s.term("17", "Its CORE is the most NEIGHBOURS that any NODE had as it went, up to it.");
        // 4 goes with none, 3 with one, 0 with two; 1 then has one and 2 none, the most is two.
        CliqueSearch x = Nets.net(5, 0, 1, 1, 2, 0, 2, 2, 3);
        cores("a triangle, one that hangs on it and one alone", x, 2, 2, 2, 1, 0);
        cores("a ring of five", Nets.ring(5), 2, 2, 2, 2, 2);
        cores("a star", Nets.star(4, 0), 1, 1, 1, 1);
        cores("four without EDGES", Nets.net(4), 0, 0, 0, 0);
    }

    private void cores(String of, CliqueSearch x, int... cores) {
        for (int v = 0; v < cores.length; v++) {
            s.due("core(" + v + ") of " + of, cores[v], x.core(v));
        }
    }

    // ---- the promises

    private void coloursOfSet() {
        s.promise(14, "How many COLOURS a SET has.");
        s.due("colours(0) without NODES", 0, new CliqueSearch().colours(0));
        s.due("colours(0) of 16, all joined", 0, Nets.fullNet(16).colours(0));
        s.due("colours(1) of one", 1, Nets.net(1).colours(1));
        s.due("colours({15}) of 16, all joined", 1, Nets.fullNet(16).colours(0x8000));
        s.due("colours({0, 15}) of 16, all joined", 2, Nets.fullNet(16).colours(0x8001));
        s.due("colours() of all 16 without EDGES", 1, Nets.net(16).colours(0xFFFF));
        s.due("colours() of all 16, all joined", 16, Nets.fullNet(16).colours(0xFFFF));
        s.due("colours() of 15 of 16, all joined", 15, Nets.fullNet(16).colours(0x7FFF));
    }

    private void coloursOfOtherNodes() {
        s.promise(14, "BAD: bits of other NODES.");
        for (int n = 0; n <= 16; n++) {
            int all = (1 << n) - 1;
            CliqueSearch x = Nets.net(n);
            for (int bit = n; bit < 32; bit++) {
                String of = " of " + n;
                s.due("colours({" + bit + "})" + of, BAD, x.colours(1 << bit));
                s.due("colours(all and " + bit + ")" + of, BAD, x.colours(all | 1 << bit));
            }
            s.due("colours(-1) of " + n, BAD, x.colours(-1));
        }
        for (int set : new int[] {64, 65, 127, 0x8000, 0x10000, -1, -64, Sentences.LEAST,
            Sentences.LEAST + 1, Sentences.MOST}) {
            s.refused("colours(" + set + ") of six", BAD, Nets::used, x -> x.colours(set));
        }
    }

    private void colourOfNode() {
        s.promise(15, "The COLOUR of a NODE of a SET.");
        s.due("colour(1, 0) of one", 1, Nets.net(1).colour(1, 0));
        CliqueSearch all = Nets.fullNet(16);
        for (int v = 0; v < 16; v++) {
            s.due("colour(all, " + v + "), all joined", v + 1, all.colour(0xFFFF, v));
            s.due("colour({" + v + "}, " + v + "), all joined", 1, all.colour(1 << v, v));
        }
        s.due("colour(all, 15) without EDGES", 1, Nets.net(16).colour(0xFFFF, 15));
    }

    private void colourOfOtherNodesOrNotOfSet() {
        s.promise(15, "BAD: bits of other NODES; it is not of the SET.");
        for (int v : Sentences.outside(0, 5)) {
            s.refused("colour(63, " + v + ") of six", BAD, Nets::used, x -> x.colour(63, v));
        }
        for (int v : Sentences.outside(0, 15)) {
            s.due("colour(65535, " + v + ") of 16", BAD, Nets.net(16).colour(0xFFFF, v));
        }
        for (int v = 0; v < 6; v++) {
            int node = v;
            s.refused("colour(0, " + v + ")", BAD, Nets::used, x -> x.colour(0, node));
            s.refused("colour(all but " + v + ", " + v + ")", BAD, Nets::used,
                    x -> x.colour(63 & ~(1 << node), node));
        }
        for (int set : new int[] {65, 127, 0x8001, 0x10001, 0x10000, -1, Sentences.LEAST,
            Sentences.LEAST + 1, Sentences.MOST}) {
            s.refused("colour(" + set + ", 0) of six", BAD, Nets::used, x -> x.colour(set, 0));
            s.refused("colour(" + set + ", 6) of six", BAD, Nets::used, x -> x.colour(set, 6));
        }
        s.due("colour(65537, 0) of 16", BAD, Nets.net(16).colour(0x10001, 0));
        s.due("colour(65536, 16) of 16", BAD, Nets.net(16).colour(0x10000, 16));
        s.due("colour(0, 0) without NODES", BAD, new CliqueSearch().colour(0, 0));
        s.due("colour(1, 0) without NODES", BAD, new CliqueSearch().colour(1, 0));
    }

    private void peeledByNumber() {
        s.promise(16, "PEELING: the NODE that goes as number k (from 0).");
        s.due("peeled(0) of one", 0, Nets.net(1).peeled(0));
        s.due("peeled(0) of 16, all joined", 0, Nets.fullNet(16).peeled(0));
        s.due("peeled(15) of 16, all joined", 15, Nets.fullNet(16).peeled(15));
        CliqueSearch x = Nets.net(3, 0, 1);
        s.due("peeled(0), the first", 2, x.peeled(0));
        s.due("peeled(2), the last", 1, x.peeled(2));
        x.edge(0, 1, false);
        s.due("peeled(0) without EDGES", 0, x.peeled(0));
        x.node(1);
        s.due("peeled(3) behind a NODE more", 3, x.peeled(3));
    }

    private void peeledNoneSuch() {
        s.promise(16, "BAD: none such.");
        for (int k : Sentences.outside(0, 5)) {
            s.refused("peeled(" + k + ") of six", BAD, Nets::used, x -> x.peeled(k));
        }
        for (int k : Sentences.outside(0, 15)) {
            s.refused("peeled(" + k + ") of 16", BAD, Nets::usedOf16, x -> x.peeled(k));
        }
        s.refused("peeled(0) without NODES", BAD, CliqueSearch::new, x -> x.peeled(0));
        s.refused("peeled(1) of one", BAD, () -> Nets.net(1), x -> x.peeled(1));
    }

    private void coreOfNode() {
        s.promise(17, "The CORE of a NODE.");
        s.due("core(0) of one", 0, Nets.net(1).core(0));
        s.due("core(15) of 16 without EDGES", 0, Nets.net(16).core(15));
        s.due("core(0) of 16, all joined", 15, Nets.fullNet(16).core(0));
        s.due("core(15) of 16, all joined", 15, Nets.fullNet(16).core(15));
        s.due("core(15) of a star", 1, Nets.star(16, 15).core(15));
    }

    private void coreOfNoneSuch() {
        s.promise(17, "BAD: none such.");
        for (int v : Sentences.outside(0, 5)) {
            s.refused("core(" + v + ") of six", BAD, Nets::used, x -> x.core(v));
        }
        for (int v : Sentences.outside(0, 15)) {
            s.refused("core(" + v + ") of 16", BAD, Nets::usedOf16, x -> x.core(v));
        }
        s.refused("core(0) without NODES", BAD, CliqueSearch::new, x -> x.core(0));
        s.refused("core(1) of one", BAD, () -> Nets.net(1), x -> x.core(1));
    }
}
