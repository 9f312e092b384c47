/** Promises 18 and 19, and the terms they stand on: each sentence that names a boundary. */
final class SearchBoundaries {
    private static final int BAD = -1;
    private static final int MOST_WORK = 100000;

    private final Sentences s;

    SearchBoundaries(Sentences s) {
        this.s = s;
    }

    void all() {
        noneIsBestAtFirst();
        joinedWithAllOfTheClique();
        theFirstBranch();
        everyBranchHasItsOwnColours();
        cliqueWithoutMoreNodesIsBest();
        greatestColourThenGreatestNumber();
        endsWhenNotAboveBest();
        neighboursAsTheyAreThen();
        endsAtTheNextBranch();
        boundsWhenCutOff();
        boundsAtTheEnd();

        searchOfLeastAndGreatestWork();
        searchOfAnotherWork();
        searchedOfTheLatest();
        searchedOfAnotherNumber();
        searchedBeforeAndAsItWas();
    }

    private void finds(String call, int want, CliqueSearch x, int work) {
        s.due("search(" + work + ") of " + call, want, x.search(work));
    }

    /** LOWER, UPPER, begun, CUT, ended by WORK. */
    private void tells(String of, CliqueSearch x, int... want) {
        for (int what = 0; what < want.length; what++) {
            s.due("searched(" + what + ") of " + of, want[what], x.searched(what));
        }
    }

    /**
     * Colours 1 2 1 2 3 4 5. 6 finds {4, 5, 6}, which cuts 2 and then 4; 5 begins once more, and
     * as 6 has gone it is cut there at once; then 4 is cut.
     */
    private static CliqueSearch seven() {
        return Nets.net(7, 0, 1, 0, 3, 0, 4, 1, 4, 1, 5, 2, 5, 2, 6, 3, 6, 4, 5, 4, 6, 5, 6);
    }

    // ---- the terms

    private void noneIsBestAtFirst() {
        s.term("18", "BEST is a CLIQUE, none at first.");
        CliqueSearch x = Nets.fullNet(16);
        finds("16, all joined", 0, x, 1);
        s.due("searched(0)", 0, x.searched(0));
        finds("16, all joined", 0xFFFF, x, MOST_WORK);
        finds("16, all joined, once more", 0, x, 1);
        s.due("searched(0) of the later one", 0, x.searched(0));
    }

    private void joinedWithAllOfTheClique() {
        s.term("18", "A BRANCH has a CLIQUE C and a SET P of NODES that are joined with all of C");
        // 3 is joined with 0 and 2, 2 with 1 too: none is left for {2, 3}.
        CliqueSearch x = Nets.ring(4);
        finds("a ring of four", Nets.set(2, 3), x, MOST_WORK);
        tells("a ring of four", x, 2, 2, 3, 2, 0);
    }

    private void theFirstBranch() {
        s.term("18, 19", "the first one: none, all NODES.");
        CliqueSearch none = new CliqueSearch();
        finds("no NODES", 0, none, 1);
        tells("no NODES", none, 0, 0, 1, 0, 0);
        CliqueSearch one = Nets.net(1);
        finds("one", 0, one, 1);
        tells("one, 1", one, 0, 1, 1, 0, 1);
        finds("one", 1, one, 2);
        tells("one, 2", one, 1, 1, 2, 0, 0);
    }

    private void everyBranchHasItsOwnColours() {
        s.term("18", "A BRANCH: P gets COLOURS.");
        // 1 has colour 2 of all and 2 has 1, but below 3 both have 1: 2 goes first.
        CliqueSearch x = Nets.net(4, 0, 1, 1, 3, 2, 3);
        finds("a row", Nets.set(2, 3), x, MOST_WORK);
        tells("a row", x, 2, 2, 3, 2, 0);
    }

    private void cliqueWithoutMoreNodesIsBest() {
        s.term("18", "If P is none: C is BEST, if it has more NODES than BEST has.");
        CliqueSearch x = Nets.net(2, 0, 1);
        finds("two", 0, x, 1);
        finds("two: {1} has a NODE in P still", 0, x, 2);
        finds("two: {0, 1} has none", 3, x, 3);
        tells("two", x, 2, 2, 3, 1, 0);
        // Both triangles have three: the one that is met first stays.
        CliqueSearch y = Nets.net(6, 0, 1, 1, 2, 0, 2, 3, 4, 4, 5, 3, 5);
        finds("two triangles", Nets.set(3, 4, 5), y, MOST_WORK);
        tells("two triangles", y, 3, 3, 4, 2, 0);
    }

    private void greatestColourThenGreatestNumber() {
        s.term("18", "Else its NODES are gone through by COLOURS, the greatest first, of like "
                + "ones the greatest number first");
        CliqueSearch apart = Nets.net(16);
        finds("16 without EDGES", 0x8000, apart, MOST_WORK);
        tells("16 without EDGES", apart, 1, 1, 2, 1, 0);
        // Colours 1 2 1: 1 goes before 2.
        CliqueSearch x = Nets.net(3, 0, 1);
        finds("two and one", Nets.set(0, 1), x, MOST_WORK);
        tells("two and one", x, 2, 2, 3, 1, 0);
    }

    private void endsWhenNotAboveBest() {
        s.term("18, 19", "if C's NODES and the COLOUR together are not above BEST's NODES (as BEST "
                + "is then), the BRANCH ends (it is CUT, if P has NODES still)");
        // 1 finds {1}; then 0 with 0 + 1 is not above 1.
        CliqueSearch two = Nets.net(2);
        finds("two without EDGES", Nets.set(1), two, MOST_WORK);
        tells("two without EDGES", two, 1, 1, 2, 1, 0);
        // Colours 1 2 3 1 2 3: 5 finds {4, 5}; 2 with 0 + 3 is above 2 and finds {0, 1, 2}; then
        // 4 with 0 + 2 is not above 3.
        CliqueSearch six = Nets.used();
        finds("six", Nets.set(0, 1, 2), six, MOST_WORK);
        tells("six", six, 3, 3, 6, 3, 0);
        // A branch whose NODES all went is not CUT.
        CliqueSearch one = Nets.net(1);
        finds("one", 1, one, MOST_WORK);
        tells("one", one, 1, 1, 2, 0, 0);
        // Each branch but the last two is cut at its second NODE.
        CliqueSearch all = Nets.fullNet(16);
        finds("16, all joined", 0xFFFF, all, MOST_WORK);
        tells("16, all joined", all, 16, 16, 17, 15, 0);
    }

    private void neighboursAsTheyAreThen() {
        s.term("18, 19", "else the BRANCH with that NODE more, and with its NEIGHBOURS in P as "
                + "they are then (its own all at once, before the next one of these); then the "
                + "NODE goes from P.");
        CliqueSearch x = seven();
        finds("seven", Nets.set(4, 5, 6), x, MOST_WORK);
        tells("seven", x, 3, 3, 5, 4, 0);
        finds("seven: below 6 ahead of 5", Nets.set(4, 5, 6), x, 4);
        tells("seven, 4", x, 3, 5, 4, 2, 1);
        finds("seven: {5, 6} has a NODE in P still", 0, x, 3);
        tells("seven, 3", x, 0, 5, 3, 0, 1);
    }

    private void endsAtTheNextBranch() {
        s.term("18, 19", "WORK: so many BRANCHES are begun at most; the next one that would be is "
                + "not, and THE SEARCH ends there");
        CliqueSearch all = Nets.fullNet(16);
        finds("16, all joined: one too few", 0, all, 16);
        tells("16, all joined, 16", all, 0, 16, 16, 0, 1);
        finds("16, all joined: just enough", 0xFFFF, all, 17);
        tells("16, all joined, 17", all, 16, 16, 17, 15, 0);
        CliqueSearch x = seven();
        finds("seven: just enough", Nets.set(4, 5, 6), x, 5);
        tells("seven, 5", x, 3, 3, 5, 4, 0);
        CliqueSearch six = Nets.used();
        finds("six: just enough", Nets.set(0, 1, 2), six, 6);
        tells("six, 6", six, 3, 3, 6, 3, 0);
        finds("six: one too few", Nets.set(4, 5), six, 5);
        tells("six, 5", six, 2, 3, 5, 1, 1);
    }

    private void boundsWhenCutOff() {
        s.term("19", "LOWER is how many NODES BEST has, UPPER how many COLOURS all NODES have");
        CliqueSearch five = Nets.ring(5);
        finds("a ring of five", 0, five, 2);
        tells("a ring of five, 2", five, 0, 3, 2, 0, 1);
        CliqueSearch apart = Nets.net(16);
        finds("16 without EDGES", 0, apart, 1);
        tells("16 without EDGES, 1", apart, 0, 1, 1, 0, 1);
        CliqueSearch x = seven();
        finds("seven", Nets.set(4, 5, 6), x, 4);
        tells("seven, 4", x, 3, 5, 4, 2, 1);
    }

    private void boundsAtTheEnd() {
        s.term("19", "when it comes to its end UPPER is LOWER.");
        CliqueSearch five = Nets.ring(5);
        s.due("colours(31) of a ring of five", 3, five.colours(31));
        finds("a ring of five", Nets.set(3, 4), five, 3);
        tells("a ring of five, 3", five, 2, 2, 3, 2, 0);
        CliqueSearch x = seven();
        finds("seven", Nets.set(4, 5, 6), x, MOST_WORK);
        s.due("searched(0) of seven", 3, x.searched(0));
        s.due("searched(1) of seven", 3, x.searched(1));
    }

    // ---- the promises

    private void searchOfLeastAndGreatestWork() {
        s.promise(18, "THE SEARCH with so much WORK (1 .. 100,000): BEST as a SET.");
        finds("no NODES", 0, new CliqueSearch(), 1);
        finds("no NODES", 0, new CliqueSearch(), MOST_WORK);
        finds("16, all joined", 0, Nets.fullNet(16), 1);
        finds("16, all joined", 0xFFFF, Nets.fullNet(16), 99999);
        finds("16, all joined", 0xFFFF, Nets.fullNet(16), MOST_WORK);
        finds("16 without EDGES", 0, Nets.net(16), 1);
        finds("16 without EDGES", 0x8000, Nets.net(16), 2);
        finds("six: BEST so far", Nets.set(4, 5), Nets.used(), 3);
    }

    private void searchOfAnotherWork() {
        s.promise(18, "BAD: another WORK.");
        for (int work : Sentences.outside(1, MOST_WORK)) {
            String call = "search(" + work + ")";
            s.refused(call, BAD, Nets::used, x -> x.search(work));
            s.refused(call + " without NODES", BAD, CliqueSearch::new, x -> x.search(work));
            s.refused(call + " of 16", BAD, Nets::usedOf16, x -> x.search(work));
        }
    }

    private void searchedOfTheLatest() {
        s.promise(19, "Of the latest search(): 0 LOWER, 1 UPPER, 2 BRANCHES that were begun, 3 "
                + "those that were CUT, 4 whether it was ended by WORK (1, 0).");
        CliqueSearch x = Nets.used();
        tells("six, 5", x, 2, 3, 5, 1, 1);
        x.search(MOST_WORK);
        tells("six, to its end", x, 3, 3, 6, 3, 0);
        x.search(1);
        tells("six, 1", x, 0, 3, 1, 0, 1);
        CliqueSearch one = Nets.net(1);
        one.search(MOST_WORK);
        tells("one", one, 1, 1, 2, 0, 0);
        for (int v = 1; v < 16; v++) {
            one.node(1);
        }
        one.search(MOST_WORK);
        tells("16 without EDGES, behind a search of one", one, 1, 1, 2, 1, 0);
    }

    private void searchedOfAnotherNumber() {
        s.promise(19, "BAD: another number.");
        for (int what : Sentences.outside(0, 4)) {
            String call = "searched(" + what + ")";
            s.refused(call, BAD, Nets::used, x -> x.searched(what));
            s.refused(call + " before", BAD, CliqueSearch::new, x -> x.searched(what));
        }
    }

    private void searchedBeforeAndAsItWas() {
        s.promise(19, "(0 before; it stays as it was then.)");
        CliqueSearch before = Nets.fullNet(16);
        tells("none before", before, 0, 0, 0, 0, 0);
        before.search(0);
        before.search(MOST_WORK + 1);
        tells("none but BAD ones", before, 0, 0, 0, 0, 0);
        CliqueSearch three = Nets.fullNet(3);
        three.search(MOST_WORK);
        three.edge(0, 1, false);
        three.edge(1, 2, false);
        three.edge(0, 2, false);
        tells("three that were all joined then", three, 3, 3, 4, 2, 0);
        CliqueSearch x = Nets.used();
        x.edge(0, 1, false);
        tells("six behind an EDGE less", x, 2, 3, 5, 1, 1);
        x.edge(1, 3, true);
        tells("six behind an EDGE more", x, 2, 3, 5, 1, 1);
        x.node(1);
        tells("six behind a NODE more", x, 2, 3, 5, 1, 1);
        x.weight(0, 1000);
        tells("six behind a WEIGHT", x, 2, 3, 5, 1, 1);
        x.colours(1);
        x.colour(3, 1);
        x.greatest();
        x.near(4);
        x.sure(3);
        tells("six behind other calls", x, 2, 3, 5, 1, 1);
        x.search(0);
        x.search(MOST_WORK + 1);
        tells("six behind BAD ones", x, 2, 3, 5, 1, 1);
    }
}
