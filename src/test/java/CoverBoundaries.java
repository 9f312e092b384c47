/** Promises 20 to 24, and the terms they stand on: each sentence that names a boundary. */
final class CoverBoundaries {
    private static final int BAD = -1;
    private static final int NONE = -2;

    private final Sentences s;

    CoverBoundaries(Sentences s) {
        this.s = s;
    }

    void all() {
        theFirstRuleForTheLeastNode();
        rule1WithoutNeighbours();
        rule2WithMoreThanK();
        rule3WithSingleNeighbour();
        noCoverBelowZero();
        noCoverOfTooManyEdges();
        joinedOnesOnUnlikeSides();
        sidesOfEachPart();
        noSidesIfThatCannotBe();
        pairsWithoutNodeInCommon();
        pairsAroundOddRings();
        pairsByWaysThroughRings();

        sureOfLeastAndGreatest();
        sureOfAnotherK();
        sureThereIsNone();
        takenOfTheLatest();
        takenOfAnotherNumber();
        takenBefore();
        sidesAsSet();
        sidesNone();
        pairsHowMany();
        countOfEach();
        countOfAnotherNumber();
    }

    /** What sure(k) leaves, which NODES it takes, and what k is then. */
    private void sure(String of, CliqueSearch x, int k, int left, int taken, int then) {
        String call = "sure(" + k + ") of " + of;
        s.due(call, left, x.sure(k));
        s.due(call + ", taken(0)", taken, x.taken(0));
        s.due(call + ", taken(1)", then, x.taken(1));
    }

    private void sureNone(String of, CliqueSearch x, int k) {
        s.due("sure(" + k + ") of " + of, NONE, x.sure(k));
    }

    /** All joined but for 3 and 4. */
    private static CliqueSearch fiveButOne() {
        CliqueSearch x = Nets.fullNet(5);
        x.edge(3, 4, false);
        return x;
    }

    // ---- the terms

    private void theFirstRuleForTheLeastNode() {
        s.term("20, 21", "as long as one of these holds, the first one, for the least NODE");
        // Rule 2 for 0 (three, k is 2), then rule 3 for 1. Rule 3 for 2 first would take {0, 1}.
        sure("a row with a star", Nets.net(5, 0, 1, 0, 3, 0, 4, 1, 2), 2,
                0, Nets.set(0, 2), 0);
        // Rule 3 for 0 takes 1, then rule 3 for 2 takes 3; from the other end it would be {1, 2}.
        sure("a row of four", Nets.net(4, 0, 1, 1, 2, 2, 3), 2, 0, Nets.set(1, 3), 0);
        // Each of eight PAIRS: the least is looked at, so the other is TAKEN.
        sure("eight PAIRS", Nets.net(16, 0, 15, 1, 14, 2, 13, 3, 12, 4, 11, 5, 10, 6, 9, 7, 8), 16,
                0, 0xFF00, 8);
    }

    private void rule1WithoutNeighbours() {
        s.term("20, 21", "1 a NODE without NEIGHBOURS goes");
        sure("one", Nets.net(1), 0, 0, 0, 0);
        sure("16 without EDGES", Nets.net(16), 0, 0, 0, 0);
        sure("16 without EDGES", Nets.net(16), 16, 0, 0, 16);
        sure("a ring of four and two alone", Nets.net(6, 0, 2, 2, 3, 3, 5, 5, 0), 4,
                Nets.set(0, 2, 3, 5), 0, 4);
    }

    private void rule2WithMoreThanK() {
        s.term("20, 21", "2 a NODE with more than k (as it is then) NEIGHBOURS is TAKEN, goes with "
                + "its EDGES, k is one less");
        // Three of five have four. With 4 none is above; with 3 each of them is, as k falls too.
        sure("five but one EDGE", fiveButOne(), 4, 31, 0, 4);
        sure("five but one EDGE", fiveButOne(), 3, 0, Nets.set(0, 1, 2), 0);
        // The middle has four, which are a ring of their own.
        CliqueSearch x = Nets.net(5, 4, 0, 4, 1, 4, 2, 4, 3, 0, 1, 1, 2, 2, 3, 3, 0);
        sure("a wheel, exactly k", x, 4, 31, 0, 4);
        sure("a wheel, one above k", x, 3, Nets.set(0, 1, 2, 3), Nets.set(4), 2);
        // It goes with its EDGES: those of the star that are left go by rule 1.
        sure("a star", Nets.star(16, 15), 1, 0, 0x8000, 0);
    }

    private void rule3WithSingleNeighbour() {
        s.term("20, 21", "3 a NODE with a single NEIGHBOUR: that one is TAKEN so.");
        sure("two", Nets.net(2, 0, 1), 1, 0, Nets.set(1), 0);
        sure("two", Nets.net(2, 0, 1), 16, 0, Nets.set(1), 15);
        sure("a star", Nets.star(16, 15), 15, 0, 0x8000, 14);
        sure("a triangle: two is not single", Nets.ring(3), 2, 7, 0, 2);
        // 3 has a single one, 0; behind 0 node 1 has a single one, 2.
        sure("a triangle and one on it", Nets.net(4, 0, 1, 1, 2, 2, 0, 0, 3), 3,
                0, Nets.set(0, 2), 1);
    }

    private void noCoverBelowZero() {
        s.term("20", "When k is below 0");
        sureNone("two", Nets.net(2, 0, 1), 0);
        sure("two, k is just 0", Nets.net(2, 0, 1), 1, 0, Nets.set(1), 0);
        sureNone("two PAIRS", Nets.net(4, 0, 1, 2, 3), 1);
        sure("two PAIRS, k is just 0", Nets.net(4, 0, 1, 2, 3), 2, 0, Nets.set(1, 3), 0);
        sure("no EDGES, k is 0 from the start", Nets.net(2), 0, 0, 0, 0);
        sureNone("16, all joined", Nets.fullNet(16), 14);
    }

    private void noCoverOfTooManyEdges() {
        s.term("20", "or more than k times k EDGES are left and none of these holds: there is no "
                + "such COVER.");
        sure("a ring of four, 2 * 2", Nets.ring(4), 2, 15, 0, 2);
        sureNone("a ring of five, more than 2 * 2", Nets.ring(5), 2);
        sure("two parts of three, 3 * 3", Nets.parts(3, 3), 3, 63, 0, 3);
        // The same with a NODE in the middle of EDGE 0 3: ten EDGES.
        CliqueSearch ten = Nets.parts(3, 3);
        ten.edge(0, 3, false);
        ten.node(1);
        ten.edge(0, 6, true);
        ten.edge(6, 3, true);
        sureNone("ten EDGES, more than 3 * 3", ten, 3);
        sure("ten EDGES", ten, 4, 127, 0, 4);
        sure("two parts of four, 4 * 4", Nets.parts(4, 4), 4, 255, 0, 4);
        sure("two parts of eight, 8 * 8", Nets.parts(8, 8), 8, 0xFFFF, 0, 8);
        // 2 is TAKEN, which leaves a ring of five with k at 2: nine EDGES were 3 * 3.
        sureNone("k as it is then",
                Nets.net(6, 0, 2, 0, 4, 0, 5, 1, 2, 1, 3, 1, 5, 2, 3, 2, 4, 3, 4), 3);
        // 15 EDGES are more than 1 * 1, but a rule holds.
        sure("a star, as long as a rule holds", Nets.star(16, 0), 1, 0, 1, 0);
    }

    private void joinedOnesOnUnlikeSides() {
        s.term("22", "SIDES: each NODE is on side 0 or 1, joined ones on unlike sides");
        s.due("sides() of two", Nets.set(1), Nets.net(2, 0, 1).sides());
        s.due("sides() of two that are not joined", 0, Nets.net(2).sides());
        s.due("sides() of a ring of four", Nets.set(1, 3), Nets.ring(4).sides());
        CliqueSearch x = Nets.ring(4);
        x.edge(0, 2, true);
        s.due("sides() of a ring of four with 0 and 2 joined", NONE, x.sides());
    }

    private void sidesOfEachPart() {
        s.term("22", "of each part that hangs together the least NODE is on side 0");
        s.due("sides() of 16 parts of one", 0, Nets.net(16).sides());
        s.due("sides() of eight PAIRS", 0xFF00,
                Nets.net(16, 0, 15, 1, 14, 2, 13, 3, 12, 4, 11, 5, 10, 6, 9, 7, 8).sides());
        s.due("sides() of a star, the middle being the least", 0xFFFE, Nets.star(16, 0).sides());
        s.due("sides() of a star, the middle being the last", 0x8000, Nets.star(16, 15).sides());
        // 0 is at the end of the row 1 2 3 0.
        s.due("sides() of a row", Nets.set(1, 3), Nets.net(4, 1, 2, 2, 3, 3, 0).sides());
        s.due("sides() of two rows", Nets.set(2, 3, 5),
                Nets.net(6, 0, 2, 1, 3, 3, 4, 4, 5).sides());
    }

    private void noSidesIfThatCannotBe() {
        s.term("22", "there are none, if that can't be.");
        s.due("sides() of a ring of three", NONE, Nets.ring(3).sides());
        s.due("sides() of a ring of 15", NONE, Nets.ring(15).sides());
        s.due("sides() of a ring of 16", 0xAAAA, Nets.ring(16).sides());
        s.due("sides() with one part, the last, that can't be", NONE,
                Nets.net(16, 0, 1, 13, 14, 14, 15, 15, 13).sides());
        CliqueSearch x = Nets.ring(3);
        x.edge(0, 2, false);
        s.due("sides() once that can be", Nets.set(1), x.sides());
    }

    private void pairsWithoutNodeInCommon() {
        s.term("23", "PAIRS: EDGES of which no two have a NODE in common, as many as can be.");
        s.due("pairs() of a star", 1, Nets.star(16, 0).pairs());
        s.due("pairs() of a triangle", 1, Nets.ring(3).pairs());
        s.due("pairs() of a row of four, its middle being 0 and 1", 2,
                Nets.net(4, 0, 1, 0, 2, 1, 3).pairs());
        s.due("pairs() of two triangles joined by an EDGE", 3,
                Nets.net(6, 0, 1, 1, 2, 2, 0, 3, 4, 4, 5, 5, 3, 0, 3).pairs());
        s.due("pairs() of parts of two and 14", 2, Nets.parts(2, 14).pairs());
    }

    /** Nets where a pair more is found, or seems to be, by a way around an odd ring. */
    private void pairsAroundOddRings() {
        s.term("23", "PAIRS: EDGES of which no two have a NODE in common, as many as can be.");
        s.due("pairs() of a ring of five and a star", 3,
                Nets.net(8, 5, 3, 3, 0, 0, 2, 2, 1, 1, 5, 7, 3, 6, 7, 4, 7).pairs());
        s.due("pairs() of a triangle on a ring of five", 3,
                Nets.net(8, 1, 5, 5, 3, 3, 1, 4, 3, 0, 5, 7, 1, 2, 4, 6, 1, 0, 2).pairs());
        s.due("pairs() of nine", 4, Nets.net(9, 5, 6, 8, 1, 4, 1, 0, 2, 1, 2, 7, 1, 5, 0, 7, 2, 2,
                3, 4, 8, 4, 3).pairs());
        s.due("pairs() of a ring of nine, one on 2 and 0 and 7 joined", 5, Nets.net(10, 8, 2, 2, 7,
                7, 4, 4, 3, 3, 1, 1, 0, 0, 5, 5, 6, 6, 8, 9, 2, 0, 7).pairs());
        s.due("pairs() of a ring of nine, one on 3 and 2 and 5 joined", 5, Nets.net(10, 6, 1, 1, 5,
                5, 0, 0, 4, 4, 7, 7, 3, 3, 2, 2, 9, 9, 6, 8, 3, 5, 2).pairs());
        s.due("pairs() of a ring of eleven", 6, Nets.net(12, 7, 3, 3, 5, 5, 1, 1, 11, 11, 10, 10,
                4, 4, 2, 2, 8, 8, 6, 6, 0, 0, 7, 9, 1, 2, 5).pairs());
    }

    /** Nets in which ways go through rings more than once: few nets of so many nodes need that. */
    private void pairsByWaysThroughRings() {
        s.term("23", "PAIRS: EDGES of which no two have a NODE in common, as many as can be.");
        s.due("pairs() of a triangle on a row", 3,
                Nets.net(8, 0, 4, 4, 5, 6, 3, 3, 0, 7, 5, 4, 3).pairs());
        s.due("pairs() of a triangle and a ring of four", 3,
                Nets.net(9, 2, 3, 0, 2, 5, 0, 6, 0, 4, 3, 3, 8, 4, 0, 5, 2).pairs());
        s.due("pairs() of a triangle, a row and a star", 3,
                Nets.net(10, 2, 1, 0, 2, 6, 0, 3, 6, 5, 8, 9, 8, 0, 3, 1, 8).pairs());
        s.due("pairs() of rings of seven and four", 5, Nets.net(12, 0, 3, 3, 7, 7, 2, 2, 5,
                5, 4, 1, 0, 8, 5, 6, 1, 9, 2, 11, 3, 6, 9, 4, 7, 1, 10).pairs());
        s.due("pairs() of rings of four and five", 5, Nets.net(13, 5, 4, 7, 5, 0, 5, 2, 7, 6, 0,
                3, 6, 12, 10, 9, 1, 2, 4, 12, 6, 1, 0, 7, 3).pairs());
        s.due("pairs() of rings of seven and six", 6, Nets.net(15, 11, 14, 10, 14, 7, 11,
                1, 7, 0, 10, 2, 7, 3, 1, 5, 0, 4, 3, 12, 3, 9, 4, 13, 12, 9, 2, 1, 5).pairs());
        s.due("pairs() of a ring of 15 and one on two of it", 8, Nets.net(16, 10, 13, 13, 14, 14,
                11, 11, 7, 7, 1, 1, 6, 6, 12, 12, 5, 5, 3, 3, 4, 4, 8, 8, 9, 9, 0, 0, 2, 2, 10,
                15, 13, 15, 11).pairs());
    }

    // ---- the promises

    private void sureOfLeastAndGreatest() {
        s.promise(20, "WHAT IS SURE about COVERS of k (0 .. 16) NODES: the SET of NODES that are "
                + "left.");
        sure("no NODES", new CliqueSearch(), 0, 0, 0, 0);
        sure("no NODES", new CliqueSearch(), 16, 0, 0, 16);
        sure("16 without EDGES", Nets.net(16), 0, 0, 0, 0);
        sure("16, all joined", Nets.fullNet(16), 16, 0xFFFF, 0, 16);
        sure("16, all joined", Nets.fullNet(16), 15, 0xFFFF, 0, 15);
        sure("a ring of 16", Nets.ring(16), 16, 0xFFFF, 0, 16);
        sure("a ring of 16", Nets.ring(16), 4, 0xFFFF, 0, 4);
        CliqueSearch x = Nets.used();
        String before = x.neighbours(0) + " " + x.count(0) + " " + x.count(1);
        x.sure(16);
        s.holds("sure(16) takes nothing from the net itself",
                before.equals(x.neighbours(0) + " " + x.count(0) + " " + x.count(1)));
    }

    private void sureOfAnotherK() {
        s.promise(20, "BAD: another k.");
        for (int k : Sentences.outside(0, 16)) {
            s.refused("sure(" + k + ")", BAD, Nets::used, x -> x.sure(k));
            s.refused("sure(" + k + ") without NODES", BAD, CliqueSearch::new, x -> x.sure(k));
            s.refused("sure(" + k + ") of 16", BAD, Nets::usedOf16, x -> x.sure(k));
        }
    }

    private void sureThereIsNone() {
        s.promise(20, "NONE: there is no such COVER.");
        for (int k = 0; k <= 2; k++) {
            int most = k;
            s.refused("sure(" + k + ") of six", NONE, Nets::used, x -> x.sure(most));
            s.refused("sure(" + k + ") of 16", NONE, Nets::usedOf16, x -> x.sure(most));
        }
        sureNone("two", Nets.net(2, 0, 1), 0);
        sureNone("16, all joined", Nets.fullNet(16), 0);
        sureNone("16, all joined", Nets.fullNet(16), 14);
        sureNone("a ring of 16", Nets.ring(16), 3);
        s.due("sure(0) without NODES: there is one", 0, new CliqueSearch().sure(0));
    }

    private void takenOfTheLatest() {
        s.promise(21, "Of the latest sure() that was not BAD, NONE: 0 the SET of those TAKEN, 1 "
                + "what k is then.");
        CliqueSearch x = Nets.used();
        tookAsUsed("that", x);
        x.sure(17);
        x.sure(-1);
        tookAsUsed("that, behind BAD ones", x);
        x.sure(0);
        x.sure(2);
        tookAsUsed("that, behind NONE", x);
        x.edge(0, 1, false);
        x.node(1);
        tookAsUsed("that, behind changes", x);
        sure("the latest", Nets.used(), 3, 0, Nets.set(0, 2, 4), 0);
        CliqueSearch y = Nets.ring(4);
        y.edge(0, 1, false);
        sure("a row", y, 2, 0, Nets.set(2, 3), 0);
        y.edge(0, 1, true);
        sure("a ring: none is TAKEN any more", y, 16, 15, 0, 16);
        y.sure(1);
        s.due("taken(0) behind NONE: none as before", 0, y.taken(0));
        s.due("taken(1) behind NONE: 16 as before", 16, y.taken(1));
    }

    private void tookAsUsed(String of, CliqueSearch x) {
        s.due("taken(0) of " + of, Nets.set(0, 2, 4), x.taken(0));
        s.due("taken(1) of " + of, 1, x.taken(1));
    }

    private void takenOfAnotherNumber() {
        s.promise(21, "BAD: another number.");
        for (int what : Sentences.outside(0, 1)) {
            String call = "taken(" + what + ")";
            s.refused(call, BAD, Nets::used, x -> x.taken(what));
            s.refused(call + " before", BAD, CliqueSearch::new, x -> x.taken(what));
        }
    }

    private void takenBefore() {
        s.promise(21, "(0 before.)");
        CliqueSearch x = Nets.fullNet(16);
        s.due("taken(0)", 0, x.taken(0));
        s.due("taken(1)", 0, x.taken(1));
        x.sure(17);
        s.due("taken(0) behind a BAD one", 0, x.taken(0));
        s.due("taken(1) behind a BAD one", 0, x.taken(1));
        x.sure(14);
        s.due("taken(0) behind NONE", 0, x.taken(0));
        s.due("taken(1) behind NONE", 0, x.taken(1));
        CliqueSearch ring = Nets.ring(5);
        ring.sure(2);
        s.due("taken(1) behind NONE by too many EDGES", 0, ring.taken(1));
    }

    private void sidesAsSet() {
        s.promise(22, "The SET of NODES on side 1.");
        s.due("sides() without NODES", 0, new CliqueSearch().sides());
        s.due("sides() of one", 0, Nets.net(1).sides());
        s.due("sides() of two", Nets.set(1), Nets.net(2, 0, 1).sides());
        s.due("sides() of 16 without EDGES", 0, Nets.net(16).sides());
        s.due("sides() of two parts of eight", 0xFF00, Nets.parts(8, 8).sides());
        s.due("sides() of 14 and 15", 0x8000, Nets.net(16, 14, 15).sides());
    }

    private void sidesNone() {
        s.promise(22, "NONE: there are no SIDES.");
        s.refused("sides() of six", NONE, Nets::used, CliqueSearch::sides);
        s.refused("sides() of 16", NONE, Nets::usedOf16, CliqueSearch::sides);
        s.due("sides() of 16, all joined", NONE, Nets.fullNet(16).sides());
        s.due("sides() of three, all joined", NONE, Nets.fullNet(3).sides());
    }

    private void pairsHowMany() {
        s.promise(23, "How many PAIRS.");
        s.due("pairs() without NODES", 0, new CliqueSearch().pairs());
        s.due("pairs() of one", 0, Nets.net(1).pairs());
        s.due("pairs() of two that are not joined", 0, Nets.net(2).pairs());
        s.due("pairs() of two", 1, Nets.net(2, 0, 1).pairs());
        s.due("pairs() of 16 without EDGES", 0, Nets.net(16).pairs());
        s.due("pairs() of 16, all joined", 8, Nets.fullNet(16).pairs());
        s.due("pairs() of 15, all joined", 7, Nets.fullNet(15).pairs());
        s.due("pairs() of a ring of 16", 8, Nets.ring(16).pairs());
    }

    private void countOfEach() {
        s.promise(24, "0 NODES, 1 EDGES, 2 all WEIGHTS together, 3 parts that hang together.");
        counts("no NODES", new CliqueSearch(), 0, 0, 0, 0);
        counts("one", Nets.net(1), 1, 0, 1, 1);
        counts("two", Nets.net(2), 2, 0, 2, 2);
        counts("two that are joined", Nets.net(2, 0, 1), 2, 1, 2, 1);
        counts("16 without EDGES", Nets.net(16), 16, 0, 16, 16);
        counts("16, all joined", Nets.fullNet(16), 16, 120, 16, 1);
        counts("six", Nets.used(), 6, 6, 27, 1);
        counts("six and ten", Nets.usedOf16(), 16, 6, 152, 11);
        CliqueSearch x = Nets.net(16, 0, 15, 15, 1, 1, 14, 14, 2, 2, 13, 13, 3, 3, 12, 12, 4, 4,
                11, 11, 5, 5, 10, 10, 6, 6, 9, 9, 7, 7, 8);
        for (int v = 0; v < 16; v++) {
            x.weight(v, 1000);
        }
        counts("a row of 16, the heaviest there are", x, 16, 15, 16000, 1);
        x.edge(4, 11, false);
        counts("the same in two parts", x, 16, 14, 16000, 2);
    }

    private void counts(String of, CliqueSearch x, int... want) {
        for (int what = 0; what < want.length; what++) {
            s.due("count(" + what + ") of " + of, want[what], x.count(what));
        }
    }

    private void countOfAnotherNumber() {
        s.promise(24, "BAD: another number.");
        for (int what : Sentences.outside(0, 3)) {
            String call = "count(" + what + ")";
            s.refused(call, BAD, Nets::used, x -> x.count(what));
            s.refused(call + " without NODES", BAD, CliqueSearch::new, x -> x.count(what));
        }
    }
}
