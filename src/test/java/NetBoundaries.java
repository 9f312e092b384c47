/** Promises 1 to 5: each sentence that names a boundary. */
final class NetBoundaries {
    private static final int BAD = -1;
    private static final int FULL = -3;

    private final Sentences s;

    NetBoundaries(Sentences s) {
        this.s = s;
    }

    void all() {
        noNodesAtFirst();
        nodeOfLeastAndGreatestWeight();
        nodeOfAnotherWeight();
        nodeAsThe17th();
        edgeIsFromNowOn();
        edgeOfAllThereCanBe();
        edgeOfNoTwoNodes();
        weightWhatItWas();
        weightOfNoNodeOrNotInRange();
        neighboursAsSet();
        neighboursOfNoneSuch();
    }

    private void noNodesAtFirst() {
        s.promise(1, "No NODES.");
        CliqueSearch x = new CliqueSearch();
        for (int what = 0; what < 4; what++) {
            s.due("count(" + what + ")", 0, x.count(what));
        }
        s.due("neighbours(0)", BAD, x.neighbours(0));
        s.due("weight(0, 1)", BAD, x.weight(0, 1));
        s.due("edge(0, 1, true)", BAD, x.edge(0, 1, true));
        s.due("colours(1)", BAD, x.colours(1));
        s.due("peeled(0)", BAD, x.peeled(0));
        s.due("core(0)", BAD, x.core(0));
        s.due("node(1), the first", 0, x.node(1));
        CliqueSearch other = new CliqueSearch();
        s.due("count(0) of another object, made behind it", 0, other.count(0));
        s.due("node(1) of another object", 0, other.node(1));
        s.due("count(0) of the first object", 1, x.count(0));
    }

    private void nodeOfLeastAndGreatestWeight() {
        s.promise(2, "A NODE more with a WEIGHT (1 .. 1,000): its number.");
        CliqueSearch x = new CliqueSearch();
        s.due("node(1)", 0, x.node(1));
        s.due("node(1000)", 1, x.node(1000));
        s.due("node(2)", 2, x.node(2));
        s.due("node(999)", 3, x.node(999));
        s.due("count(0)", 4, x.count(0));
        s.due("count(2)", 2002, x.count(2));
        s.due("what the weight of 0 was", 1, x.weight(0, 5));
        s.due("what the weight of 1 was", 1000, x.weight(1, 5));
        s.due("what the weight of 2 was", 2, x.weight(2, 5));
        s.due("what the weight of 3 was", 999, x.weight(3, 5));
        CliqueSearch most = new CliqueSearch();
        for (int v = 0; v < 16; v++) {
            s.due("node(1000) as number " + v, v, most.node(1000));
            s.due("count(0) behind number " + v, v + 1, most.count(0));
            s.due("neighbours(" + v + ") of the new one", 0, most.neighbours(v));
        }
        s.due("count(2) of 16", 16000, most.count(2));
    }

    private void nodeOfAnotherWeight() {
        s.promise(2, "BAD: another WEIGHT.");
        for (int weight : Sentences.outside(1, 1000)) {
            String call = "node(" + weight + ")";
            s.refused(call + " without NODES", BAD, CliqueSearch::new, x -> x.node(weight));
            s.refused(call, BAD, Nets::used, x -> x.node(weight));
            s.refused(call + " as the 16th", BAD, () -> Nets.net(15), x -> x.node(weight));
            // BAD is said ahead of FULL.
            s.refused(call + " as the 17th", BAD, Nets::usedOf16, x -> x.node(weight));
        }
        CliqueSearch x = Nets.net(3);
        x.node(0);
        x.node(1001);
        s.due("node(1) behind two that were BAD", 3, x.node(1));
    }

    private void nodeAsThe17th() {
        s.promise(2, "FULL: 16.");
        s.due("node(1) as the 15th", 14, Nets.net(14).node(1));
        s.due("node(1) as the 16th", 15, Nets.net(15).node(1));
        for (int weight : new int[] {1, 2, 999, 1000}) {
            s.refused("node(" + weight + ") as the 17th", FULL, Nets::usedOf16,
                    x -> x.node(weight));
        }
        CliqueSearch x = Nets.net(16);
        s.due("node(1) as the 17th", FULL, x.node(1));
        s.due("node(1) as the 17th, again", FULL, x.node(1));
        s.due("count(0)", 16, x.count(0));
        s.due("neighbours(16)", BAD, x.neighbours(16));
    }

    private void edgeIsFromNowOn() {
        s.promise(3, "An EDGE between two NODES is, or is not, from now on: 1 it was, 0.");
        int[][] ends = {{0, 1}, {0, 15}, {14, 15}, {15, 0}, {7, 3}};
        for (int[] e : ends) {
            CliqueSearch x = Nets.net(16);
            String call = "edge(" + e[0] + ", " + e[1] + ", ";
            s.due(call + "false) of none", 0, x.edge(e[0], e[1], false));
            s.due("count(1) behind it", 0, x.count(1));
            s.due(call + "true) of a new one", 0, x.edge(e[0], e[1], true));
            s.due("neighbours(" + e[0] + ")", 1 << e[1], x.neighbours(e[0]));
            s.due("neighbours(" + e[1] + ")", 1 << e[0], x.neighbours(e[1]));
            s.due(call + "true) again", 1, x.edge(e[0], e[1], true));
            s.due(call + "true) from the other end", 1, x.edge(e[1], e[0], true));
            s.due("count(1) of one", 1, x.count(1));
            s.due(call + "false) from the other end", 1, x.edge(e[1], e[0], false));
            s.due("neighbours(" + e[0] + ") behind it", 0, x.neighbours(e[0]));
            s.due("neighbours(" + e[1] + ") behind it", 0, x.neighbours(e[1]));
            s.due(call + "false) again", 0, x.edge(e[0], e[1], false));
            s.due(call + "true) anew", 0, x.edge(e[0], e[1], true));
        }
        s.due("edge(0, 1, true) of two NODES", 0, Nets.net(2).edge(0, 1, true));
    }

    private void edgeOfAllThereCanBe() {
        s.promise(3, "An EDGE between two NODES is, or is not, from now on: 1 it was, 0.");
        CliqueSearch x = Nets.net(16);
        for (int a = 0; a < 16; a++) {
            for (int b = a + 1; b < 16; b++) {
                s.due("edge(" + a + ", " + b + ", true), new", 0, x.edge(a, b, true));
                s.due("edge(" + b + ", " + a + ", true), again", 1, x.edge(b, a, true));
            }
        }
        s.due("count(1) of all", 120, x.count(1));
        s.due("edge(0, 15, false)", 1, x.edge(0, 15, false));
        s.due("count(1) of all but one", 119, x.count(1));
        s.due("edge(0, 14, true), which stays", 1, x.edge(0, 14, true));
    }

    private void edgeOfNoTwoNodes() {
        s.promise(3, "BAD: no two NODES.");
        for (int wrong : Sentences.outside(0, 5)) {
            noTwo("of six", wrong, 1);
            noTwo("of six", 1, wrong);
            noTwo("of six", wrong, wrong);
            noTwo("of six", wrong, wrong + 1);
        }
        for (int v = 0; v < 6; v++) {
            noTwo("of six", v, v);
        }
        for (boolean on : new boolean[] {true, false}) {
            s.refused("edge(15, 16, " + on + ") of 16", BAD, Nets::usedOf16,
                    x -> x.edge(15, 16, on));
            s.refused("edge(16, 0, " + on + ") of 16", BAD, Nets::usedOf16,
                    x -> x.edge(16, 0, on));
            s.refused("edge(15, 15, " + on + ") of 16", BAD, Nets::usedOf16,
                    x -> x.edge(15, 15, on));
            s.refused("edge(0, 1, " + on + ") of none", BAD, CliqueSearch::new,
                    x -> x.edge(0, 1, on));
            s.refused("edge(0, 0, " + on + ") of none", BAD, CliqueSearch::new,
                    x -> x.edge(0, 0, on));
            s.refused("edge(0, 1, " + on + ") of one", BAD, () -> Nets.net(1),
                    x -> x.edge(0, 1, on));
            s.refused("edge(0, 0, " + on + ") of one", BAD, () -> Nets.net(1),
                    x -> x.edge(0, 0, on));
        }
    }

    private void noTwo(String of, int a, int b) {
        for (boolean on : new boolean[] {true, false}) {
            s.refused("edge(" + a + ", " + b + ", " + on + ") " + of, BAD, Nets::used,
                    x -> x.edge(a, b, on));
        }
    }

    private void weightWhatItWas() {
        s.promise(4, "Another WEIGHT: what it was.");
        for (int v : new int[] {0, 15}) {
            CliqueSearch x = Nets.net(16);
            s.due("weight(" + v + ", 1000)", 1, x.weight(v, 1000));
            s.due("count(2) then", 1015, x.count(2));
            s.due("weight(" + v + ", 1000) again", 1000, x.weight(v, 1000));
            s.due("weight(" + v + ", 1)", 1000, x.weight(v, 1));
            s.due("count(2) then", 16, x.count(2));
            s.due("weight(" + v + ", 2)", 1, x.weight(v, 2));
            s.due("weight(" + v + ", 999)", 2, x.weight(v, 999));
            s.due("count(2) at last", 1014, x.count(2));
            s.due("weight(7, 5) of another", 1, x.weight(7, 5));
        }
        s.due("weight(0, 3) of a single NODE", 1, Nets.net(1).weight(0, 3));
    }

    private void weightOfNoNodeOrNotInRange() {
        s.promise(4, "BAD: no NODE, not 1 .. 1,000.");
        for (int v : Sentences.outside(0, 5)) {
            s.refused("weight(" + v + ", 9) of six", BAD, Nets::used, x -> x.weight(v, 9));
            s.refused("weight(" + v + ", 0) of six", BAD, Nets::used, x -> x.weight(v, 0));
        }
        for (int w : Sentences.outside(1, 1000)) {
            s.refused("weight(0, " + w + ")", BAD, Nets::used, x -> x.weight(0, w));
            s.refused("weight(5, " + w + ")", BAD, Nets::used, x -> x.weight(5, w));
            s.refused("weight(15, " + w + ")", BAD, Nets::usedOf16, x -> x.weight(15, w));
        }
        s.refused("weight(16, 9) of 16", BAD, Nets::usedOf16, x -> x.weight(16, 9));
        s.refused("weight(0, 9) without NODES", BAD, CliqueSearch::new, x -> x.weight(0, 9));
    }

    private void neighboursAsSet() {
        s.promise(5, "NEIGHBOURS of a NODE, as a SET.");
        s.due("neighbours(0) of a single NODE", 0, Nets.net(1).neighbours(0));
        s.due("neighbours(15) without EDGES", 0, Nets.net(16).neighbours(15));
        CliqueSearch all = Nets.fullNet(16);
        s.due("neighbours(0), all joined", 0xFFFE, all.neighbours(0));
        s.due("neighbours(15), all joined", 0x7FFF, all.neighbours(15));
        s.due("neighbours(15) of a star", 0x7FFF, Nets.star(16, 15).neighbours(15));
        s.due("neighbours(14) of a star", 0x8000, Nets.star(16, 15).neighbours(14));
    }

    private void neighboursOfNoneSuch() {
        s.promise(5, "BAD: none such.");
        for (int v : Sentences.outside(0, 5)) {
            s.refused("neighbours(" + v + ") of six", BAD, Nets::used, x -> x.neighbours(v));
        }
        for (int v : Sentences.outside(0, 15)) {
            s.refused("neighbours(" + v + ") of 16", BAD, Nets::usedOf16, x -> x.neighbours(v));
        }
        s.refused("neighbours(0) without NODES", BAD, CliqueSearch::new, x -> x.neighbours(0));
        s.refused("neighbours(1) of one", BAD, () -> Nets.net(1), x -> x.neighbours(1));
    }
}
