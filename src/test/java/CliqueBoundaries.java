/** Promises 6 to 13, and the terms they stand on: each sentence that names a boundary. */
final class CliqueBoundaries {
    private static final int BAD = -1;

    private final Sentences s;

    CliqueBoundaries(Sentences s) {
        this.s = s;
    }

    void all() {
        eachTwoAreJoined();
        noneAndOneAreCliques();
        maximalIfNoNodeMore();
        theGreatestOne();
        theHeaviestOne();
        likeOnesByOrder();
        orderOfUnlikeRows();
        noRowIsTheBeginningOfAnother();
        noTwoAreApart();
        coverOfEachEdge();
        leastCoverByOrder();
        nearByExactlySoMany();
        nearOfLikeOnes();

        greatestAsSet();
        heaviestAsSet();
        maximalHowMany();
        maximalByNumber();
        maximalNoneSuch();
        cliquesOfSize();
        cliquesOfWrongSize();
        coverAsSet();
        apartOfLikeOnes();
        nearOfLeastAndGreatest();
        nearOfWrongNumber();
    }

    // ---- the terms

    private void eachTwoAreJoined() {
        s.term("6, 10", "A CLIQUE is a SET of which each two are joined");
        s.due("cliques(2) of two that are not joined", 0, Nets.net(2).cliques(2));
        s.due("cliques(2) of two that are", 1, Nets.net(2, 0, 1).cliques(2));
        s.due("cliques(3) of a row of three", 0, Nets.net(3, 0, 1, 1, 2).cliques(3));
        s.due("cliques(3) of a ring of three", 1, Nets.ring(3).cliques(3));
        s.due("greatest() of a ring of four", Nets.set(0, 1), Nets.ring(4).greatest());
        CliqueSearch x = Nets.fullNet(4);
        x.edge(1, 2, false);
        s.due("cliques(4), all joined but 1 and 2", 0, x.cliques(4));
        s.due("greatest(), all joined but 1 and 2", Nets.set(0, 1, 3), x.greatest());
    }

    private void noneAndOneAreCliques() {
        s.term("10", "(none, and one NODE, are CLIQUES)");
        s.due("cliques(0) without NODES", 1, new CliqueSearch().cliques(0));
        s.due("cliques(1) without NODES", 0, new CliqueSearch().cliques(1));
        s.due("cliques(0) of one", 1, Nets.net(1).cliques(0));
        s.due("cliques(1) of one", 1, Nets.net(1).cliques(1));
        s.due("cliques(0) of 16", 1, Nets.net(16).cliques(0));
        s.due("cliques(1) of 16", 16, Nets.net(16).cliques(1));
        s.due("cliques(2) of 16 without EDGES", 0, Nets.net(16).cliques(2));
    }

    private void maximalIfNoNodeMore() {
        s.term("8, 9", "It is MAXIMAL if no NODE more makes a CLIQUE of it.");
        CliqueSearch x = Nets.net(4, 0, 1, 1, 2, 2, 0);
        s.due("maximal() of a triangle and one NODE", 2, x.maximal());
        s.due("maximal(0): the triangle, none of its EDGES", Nets.set(0, 1, 2), x.maximal(0));
        s.due("maximal(1): one NODE alone", Nets.set(3), x.maximal(1));
        CliqueSearch y = Nets.fullNet(16);
        y.edge(0, 15, false);
        s.due("maximal(), all joined but 0 and 15", 2, y.maximal());
        s.due("maximal(0), all joined but 0 and 15", 0x7FFF, y.maximal(0));
        s.due("maximal(1), all joined but 0 and 15", 0xFFFE, y.maximal(1));
    }

    private void theGreatestOne() {
        s.term("6", "THE GREATEST: the one with the most NODES");
        s.due("greatest(): three behind two",
                Nets.set(13, 14, 15), Nets.net(16, 0, 1, 13, 14, 14, 15, 13, 15).greatest());
        CliqueSearch x = Nets.net(16, 0, 1, 13, 14);
        x.weight(13, 1000);
        s.due("greatest(): weights are nothing", Nets.set(0, 1), x.greatest());
    }

    private void theHeaviestOne() {
        s.term("7", "THE HEAVIEST: with the most WEIGHT together");
        // {0} against the 15 others, which are all joined and weigh 986 + 14 = 1,000.
        CliqueSearch x = Nets.fullNet(16);
        for (int v = 1; v < 16; v++) {
            x.edge(0, v, false);
        }
        x.weight(0, 1000);
        x.weight(15, 987);
        s.due("heaviest(): 1,000 against 1,001", 0xFFFE, x.heaviest());
        x.weight(15, 986);
        s.due("heaviest(): 1,000 against 1,000, the first", 1, x.heaviest());
        x.weight(15, 985);
        s.due("heaviest(): 1,000 against 999", 1, x.heaviest());
        CliqueSearch y = Nets.net(3, 0, 1);
        y.weight(2, 2);
        s.due("heaviest(): 2 against 2, the first", Nets.set(0, 1), y.heaviest());
        y.weight(2, 3);
        s.due("heaviest(): 2 against 3", Nets.set(2), y.heaviest());
    }

    private void likeOnesByOrder() {
        s.term("6, 7", "of like ones the first in ORDER");
        // As numbers {1, 2} is 6 and {0, 15} is 32,769.
        CliqueSearch x = Nets.net(16, 1, 2, 0, 15);
        s.due("greatest()", Nets.set(0, 15), x.greatest());
        s.due("heaviest()", Nets.set(0, 15), x.heaviest());
        CliqueSearch y = Nets.net(6, 0, 4, 0, 5, 4, 5, 0, 1, 1, 3, 0, 3);
        s.due("greatest() of two that begin alike", Nets.set(0, 1, 3), y.greatest());
        s.due("heaviest() of two that begin alike", Nets.set(0, 1, 3), y.heaviest());
    }

    private void orderOfUnlikeRows() {
        s.term("9", "at the first place where they differ the lesser number first");
        CliqueSearch x = Nets.net(16, 0, 1, 0, 15, 1, 15, 0, 2, 2, 3, 3, 4, 2, 4);
        int[] rows = {Nets.set(0, 1, 15), Nets.set(0, 2), Nets.set(2, 3, 4), Nets.set(5)};
        for (int k = 0; k < rows.length; k++) {
            s.due("maximal(" + k + ")", rows[k], x.maximal(k));
        }
        CliqueSearch y = Nets.net(4, 0, 3, 1, 2);
        s.due("maximal(0): {0, 3} ahead of {1, 2}", Nets.set(0, 3), y.maximal(0));
        CliqueSearch z = Nets.net(4, 1, 2, 2, 3, 1, 3);
        s.due("maximal(0): {0} ahead of {1, 2, 3}", Nets.set(0), z.maximal(0));
        CliqueSearch w = Nets.net(4, 0, 1, 1, 2, 0, 2);
        s.due("maximal(1): {3} behind {0, 1, 2}", Nets.set(3), w.maximal(1));
    }

    /**
     * No answer can show which of two such rows is the first: weights are above 0, no maximal
     * clique holds another, and all other like ones have like lengths. So that is what is tested.
     */
    private void noRowIsTheBeginningOfAnother() {
        s.term("9", "the shorter row, if it is the beginning of the other");
        CliqueSearch[] nets = {new CliqueSearch(), Nets.net(16), Nets.used(), Nets.ring(16),
            Nets.parts(3, 3, 3, 3, 4), Nets.fullNet(16)};
        for (CliqueSearch x : nets) {
            int howMany = x.maximal();
            int ahead = x.maximal(0);
            for (int k = 1; k < howMany; k++) {
                int row = x.maximal(k);
                s.holds("maximal(" + k + ") does not begin as the one ahead", (ahead & ~row) != 0);
                ahead = row;
            }
        }
        s.due("maximal() of one NODE: none is no row of its own", 1, Nets.net(1).maximal());
        s.due("heaviest() of one NODE: it is heavier than none", 1, Nets.net(1).heaviest());
    }

    private void noTwoAreApart() {
        s.term("12", "APART is a SET of which no two are joined");
        s.due("apart() without NODES: none", 0, new CliqueSearch().apart());
        s.due("apart(), all joined: one", 1, Nets.fullNet(16).apart());
        s.due("apart() of two that are joined", 1, Nets.net(2, 0, 1).apart());
        s.due("apart() of two that are not", 3, Nets.net(2).apart());
        CliqueSearch x = Nets.fullNet(16);
        x.edge(14, 15, false);
        s.due("apart(), all joined but 14 and 15", Nets.set(14, 15), x.apart());
    }

    private void coverOfEachEdge() {
        s.term("11", "COVER a SET that has a NODE of each EDGE at least");
        s.due("cover() without EDGES: none", 0, Nets.net(16).cover());
        s.due("cover() of one EDGE: one of its two", 1, Nets.net(2, 0, 1).cover());
        s.due("cover() of a triangle: both of one EDGE", 3, Nets.ring(3).cover());
        s.due("cover(), all joined", 0x7FFF, Nets.fullNet(16).cover());
    }

    private void leastCoverByOrder() {
        s.term("11", "THE LEAST COVER has the fewest NODES, of like ones it is the first in ORDER");
        s.due("cover() of a star: the middle alone", 0x8000, Nets.star(16, 15).cover());
        s.due("cover() of a single EDGE, 14 and 15", Nets.set(14), Nets.net(16, 15, 14).cover());
        // apart() is {0, 2} too; what it leaves would be {1, 3}.
        s.due("cover() of a ring of four", Nets.set(0, 2), Nets.ring(4).cover());
        s.due("cover() of a ring of 16", 0x5555, Nets.ring(16).cover());
        s.due("cover() of two EDGES", Nets.set(0, 1), Nets.net(4, 0, 3, 1, 2).cover());
        // {0, 1} would leave EDGE 2 3: the fewest go ahead of the first.
        s.due("cover() where the first are not of it",
                Nets.set(2, 3), Nets.net(6, 0, 2, 1, 2, 2, 3, 3, 4, 3, 5).cover());
    }

    private void nearByExactlySoMany() {
        s.term("13", "a SET of which each NODE is not joined with s - 1 others of it at most");
        CliqueSearch ones = Nets.fullNet(16);
        s.due("near(1), each is joined with all others", 0xFFFF, ones.near(1));
        CliqueSearch twos = Nets.parts(2, 2, 2, 2, 2, 2, 2, 2);
        s.due("near(1), each is not joined with one", 0x5555, twos.near(1));
        s.due("near(2), each is not joined with one", 0xFFFF, twos.near(2));
        CliqueSearch threes = Nets.parts(3, 3, 3, 3, 3);
        s.due("near(1), each is not joined with two", 0x1249, threes.near(1));
        s.due("near(2), each is not joined with two", 0x36DB, threes.near(2));
        s.due("near(3), each is not joined with two", 0x7FFF, threes.near(3));
        CliqueSearch fours = Nets.parts(4, 4, 4, 4);
        s.due("near(1), each is not joined with three", 0x1111, fours.near(1));
        s.due("near(2), each is not joined with three", 0x3333, fours.near(2));
        s.due("near(3), each is not joined with three", 0x7777, fours.near(3));
        s.due("near(4), each is not joined with three", 0xFFFF, fours.near(4));
        CliqueSearch fives = Nets.parts(5, 5, 5);
        s.due("near(4), each is not joined with four", 0x3DEF, fives.near(4));
        CliqueSearch one = Nets.parts(4, 1, 1);
        s.due("near(3), one too many of a part", Nets.set(0, 1, 2, 4, 5), one.near(3));
    }

    private void nearOfLikeOnes() {
        s.term("13", "of all the greatest one, of like ones the first in ORDER");
        // Any two are near by 2.
        s.due("near(2) without EDGES", Nets.set(0, 1), Nets.net(16).near(2));
        s.due("near(1) of {1, 2} and {0, 15}", Nets.set(0, 15), Nets.net(16, 1, 2, 0, 15).near(1));
        s.due("near(2) of a ring of four behind two NODES", Nets.set(2, 3, 4, 5),
                Nets.net(6, 2, 3, 3, 4, 4, 5, 5, 2).near(2));
        s.due("near(2) of a row of three and of a triangle", Nets.set(0, 1, 2),
                Nets.net(6, 0, 1, 1, 2, 3, 4, 4, 5, 3, 5).near(2));
    }

    // ---- the promises

    private void greatestAsSet() {
        s.promise(6, "THE GREATEST, as a SET (0 without NODES).");
        s.due("greatest() without NODES", 0, new CliqueSearch().greatest());
        s.due("greatest() of one", 1, Nets.net(1).greatest());
        s.due("greatest() of 16 without EDGES", 1, Nets.net(16).greatest());
        s.due("greatest() of 16, all joined", 0xFFFF, Nets.fullNet(16).greatest());
        CliqueSearch x = Nets.fullNet(16);
        x.edge(0, 1, false);
        s.due("greatest(), all joined but 0 and 1", 0xFFFD, x.greatest());
        x.edge(0, 1, true);
        x.edge(14, 15, false);
        s.due("greatest(), all joined but 14 and 15", 0x7FFF, x.greatest());
        s.due("greatest() of 14 and 15", 0xC000, Nets.net(16, 14, 15).greatest());
    }

    private void heaviestAsSet() {
        s.promise(7, "THE HEAVIEST, as a SET (0 without NODES).");
        s.due("heaviest() without NODES", 0, new CliqueSearch().heaviest());
        s.due("heaviest() of one", 1, Nets.net(1).heaviest());
        s.due("heaviest() of 16 like ones without EDGES", 1, Nets.net(16).heaviest());
        CliqueSearch x = Nets.net(16);
        x.weight(15, 2);
        s.due("heaviest() with one heavier by 1", 0x8000, x.heaviest());
        CliqueSearch y = Nets.fullNet(16);
        s.due("heaviest() of 16 of weight 1, all joined", 0xFFFF, y.heaviest());
        for (int v = 0; v < 16; v++) {
            y.weight(v, 1000);
        }
        s.due("heaviest() of 16 of weight 1,000, all joined", 0xFFFF, y.heaviest());
    }

    private void maximalHowMany() {
        s.promise(8, "How many CLIQUES are MAXIMAL (one, none, without NODES).");
        s.due("maximal() without NODES", 1, new CliqueSearch().maximal());
        s.due("maximal(0) without NODES: it is none", 0, new CliqueSearch().maximal(0));
        s.due("maximal() of one", 1, Nets.net(1).maximal());
        s.due("maximal() of two that are not joined", 2, Nets.net(2).maximal());
        s.due("maximal() of two that are joined", 1, Nets.net(2, 0, 1).maximal());
        s.due("maximal() of 16 without EDGES", 16, Nets.net(16).maximal());
        s.due("maximal() of 16, all joined", 1, Nets.fullNet(16).maximal());
        s.due("maximal() of the most there can be", 324, Nets.parts(3, 3, 3, 3, 4).maximal());
        s.due("maximal() of the most, by parts of two", 324,
                Nets.parts(2, 2, 3, 3, 3, 3).maximal());
        CliqueSearch x = new CliqueSearch();
        x.maximal();
        x.node(1);
        s.due("maximal(0) behind the first NODE: none is not MAXIMAL any more", 1, x.maximal(0));
    }

    private void maximalByNumber() {
        s.promise(9, "MAXIMAL CLIQUE k, in ORDER.");
        s.due("maximal(0) of one", 1, Nets.net(1).maximal(0));
        s.due("maximal(0), all joined", 0xFFFF, Nets.fullNet(16).maximal(0));
        for (int k = 0; k < 16; k++) {
            s.due("maximal(" + k + ") of 16 without EDGES", 1 << k, Nets.net(16).maximal(k));
        }
        CliqueSearch most = Nets.parts(3, 3, 3, 3, 4);
        s.due("maximal(0) of 324", Nets.set(0, 3, 6, 9, 12), most.maximal(0));
        s.due("maximal(1) of 324", Nets.set(0, 3, 6, 9, 13), most.maximal(1));
        s.due("maximal(4) of 324", Nets.set(0, 3, 6, 10, 12), most.maximal(4));
        s.due("maximal(322) of 324", Nets.set(2, 5, 8, 11, 14), most.maximal(322));
        s.due("maximal(323) of 324", Nets.set(2, 5, 8, 11, 15), most.maximal(323));
    }

    private void maximalNoneSuch() {
        s.promise(9, "BAD: none such.");
        for (int k : Sentences.outside(0, 3)) {
            s.refused("maximal(" + k + ") of four", BAD, Nets::used, x -> x.maximal(k));
        }
        for (int k : Sentences.outside(0, 0)) {
            s.refused("maximal(" + k + ") without NODES", BAD, CliqueSearch::new,
                    x -> x.maximal(k));
            s.due("maximal(" + k + "), all joined", BAD, Nets.fullNet(16).maximal(k));
        }
        for (int k : Sentences.outside(0, 323)) {
            s.due("maximal(" + k + ") of 324", BAD, Nets.parts(3, 3, 3, 3, 4).maximal(k));
        }
        s.due("maximal(16) of 16 without EDGES", BAD, Nets.net(16).maximal(16));
        CliqueSearch x = Nets.net(2);
        s.due("maximal(1) of two", 2, x.maximal(1));
        x.edge(0, 1, true);
        s.due("maximal(1) once they are joined", BAD, x.maximal(1));
    }

    private void cliquesOfSize() {
        s.promise(10, "How many CLIQUES have k NODES.");
        CliqueSearch none = new CliqueSearch();
        CliqueSearch three = Nets.fullNet(3);
        for (int k = 0; k <= 16; k++) {
            s.due("cliques(" + k + ") without NODES", k == 0 ? 1 : 0, none.cliques(k));
        }
        int[] ofThree = {1, 3, 3, 1, 0};
        for (int k = 0; k <= 4; k++) {
            s.due("cliques(" + k + ") of three", ofThree[k], three.cliques(k));
        }
        s.due("cliques(16) of three", 0, three.cliques(16));
        CliqueSearch all = Nets.fullNet(16);
        s.due("cliques(0), all joined", 1, all.cliques(0));
        s.due("cliques(1), all joined", 16, all.cliques(1));
        s.due("cliques(8), all joined", 12870, all.cliques(8));
        s.due("cliques(15), all joined", 16, all.cliques(15));
        s.due("cliques(16), all joined", 1, all.cliques(16));
        all.edge(0, 15, false);
        s.due("cliques(16), all joined but two", 0, all.cliques(16));
        s.due("cliques(15), all joined but two", 2, all.cliques(15));
        s.due("cliques(2), all joined but two", 119, all.cliques(2));
    }

    private void cliquesOfWrongSize() {
        s.promise(10, "BAD: k is not 0 .. 16.");
        for (int k : Sentences.outside(0, 16)) {
            s.refused("cliques(" + k + ")", BAD, Nets::used, x -> x.cliques(k));
            s.refused("cliques(" + k + ") without NODES", BAD, CliqueSearch::new,
                    x -> x.cliques(k));
            s.refused("cliques(" + k + ") of 16", BAD, Nets::usedOf16, x -> x.cliques(k));
        }
    }

    private void coverAsSet() {
        s.promise(11, "THE LEAST COVER, as a SET.");
        s.due("cover() without NODES", 0, new CliqueSearch().cover());
        s.due("cover() of one", 0, Nets.net(1).cover());
        s.due("cover() of 16 without EDGES", 0, Nets.net(16).cover());
        s.due("cover() of 16, all joined", 0x7FFF, Nets.fullNet(16).cover());
        s.due("cover() of eight PAIRS", 0xFF,
                Nets.net(16, 0, 8, 1, 9, 2, 10, 3, 11, 4, 12, 5, 13, 6, 14, 7, 15).cover());
        CliqueSearch x = Nets.net(2, 0, 1);
        x.cover();
        x.edge(0, 1, false);
        s.due("cover() behind the only EDGE", 0, x.cover());
    }

    private void apartOfLikeOnes() {
        s.promise(12, "The greatest SET that is APART, of like ones the first in ORDER.");
        s.due("apart() without NODES", 0, new CliqueSearch().apart());
        s.due("apart() of one", 1, Nets.net(1).apart());
        s.due("apart() of 16 without EDGES", 0xFFFF, Nets.net(16).apart());
        s.due("apart() of 16, all joined", 1, Nets.fullNet(16).apart());
        s.due("apart() of a star, all but the middle", 0xFFFE, Nets.star(16, 0).apart());
        s.due("apart() of a ring of 16", 0x5555, Nets.ring(16).apart());
        s.due("apart() of eight PAIRS", 0xFF,
                Nets.net(16, 0, 8, 1, 9, 2, 10, 3, 11, 4, 12, 5, 13, 6, 14, 7, 15).apart());
        s.due("apart() of two parts of eight", 0xFF, Nets.parts(8, 8).apart());
        s.due("apart() of parts of seven and nine", 0xFF80, Nets.parts(7, 9).apart());
        // {0, 3} and {1, 2}: of like ones the first, though 9 is more than 6.
        s.due("apart() of {0, 3} and {1, 2}", Nets.set(0, 3),
                Nets.net(4, 0, 1, 0, 2, 3, 1, 3, 2).apart());
    }

    private void nearOfLeastAndGreatest() {
        s.promise(13, "The greatest SET that is NEAR by s.");
        for (int by = 1; by <= 4; by++) {
            String call = "near(" + by + ")";
            s.due(call + " without NODES", 0, new CliqueSearch().near(by));
            s.due(call + " of one", 1, Nets.net(1).near(by));
            s.due(call + " of 16 without EDGES", (1 << by) - 1, Nets.net(16).near(by));
            s.due(call + " of 16, all joined", 0xFFFF, Nets.fullNet(16).near(by));
            s.due(call + " of as many without EDGES", (1 << by) - 1, Nets.net(by).near(by));
        }
        CliqueSearch x = Nets.fullNet(16);
        x.edge(0, 15, false);
        s.due("near(1), all joined but two", 0x7FFF, x.near(1));
        s.due("near(2), all joined but two", 0xFFFF, x.near(2));
        s.due("near(1) is greatest()", x.greatest(), x.near(1));
    }

    private void nearOfWrongNumber() {
        s.promise(13, "BAD: s is not 1 .. 4.");
        for (int by : Sentences.outside(1, 4)) {
            s.refused("near(" + by + ")", BAD, Nets::used, x -> x.near(by));
            s.refused("near(" + by + ") without NODES", BAD, CliqueSearch::new,
                    x -> x.near(by));
            s.refused("near(" + by + ") of 16", BAD, Nets::usedOf16, x -> x.near(by));
        }
    }
}
