import java.util.function.ToIntFunction;

/** What it is, the constants of the face, and the first terms: each that names a boundary. */
final class TermBoundaries {
    private static final int BAD = -1;
    private static final int NONE = -2;
    private static final int FULL = -3;
    private static final int MOST_CALLS = 512;

    private final Sentences s;

    TermBoundaries(Sentences s) {
        this.s = s;
    }

    void all() {
        nodesAreNumbered();
        weightIsOneAtFirst();
        the512thCall();
        callsBeyond512();
        constants();
        edgeJoinsTwo();
        neighboursAreThoseJoined();
        setsAreBits();
    }

    private void nodesAreNumbered() {
        s.says("What it is", "NODES 0 .. n - 1 (16 at most)", "2");
        for (int n = 0; n <= 16; n++) {
            CliqueSearch x = Nets.net(n);
            String of = " of " + n;
            s.due("count(0)" + of, n, x.count(0));
            s.due("neighbours(" + n + ")" + of, BAD, x.neighbours(n));
            s.due("neighbours(-1)" + of, BAD, x.neighbours(-1));
            if (n > 0) {
                s.due("neighbours(0)" + of, 0, x.neighbours(0));
                s.due("neighbours(" + (n - 1) + ")" + of, 0, x.neighbours(n - 1));
                s.due("core(" + (n - 1) + ")" + of, 0, x.core(n - 1));
            }
            s.due("node(1) behind " + n, n < 16 ? n : FULL, x.node(1));
        }
    }

    private void weightIsOneAtFirst() {
        s.says("What it is", "each with a WEIGHT (1 at first)", "2, 4");
        CliqueSearch x = Nets.net(16);
        s.due("count(2) of 16 that were made with 1", 16, x.count(2));
        for (int v = 0; v < 16; v++) {
            s.due("what the WEIGHT of " + v + " was", 1, x.weight(v, 1000));
        }
        CliqueSearch y = Nets.net(1);
        y.weight(0, 1000);
        y.node(1);
        s.due("what the WEIGHT of a later one was", 1, y.weight(1, 2));
    }

    /** An object that has been asked 511 times and is as Nets.used() makes it. */
    private static CliqueSearch asked511Times() {
        CliqueSearch x = Nets.used();
        for (int call = Nets.CALLS_OF_USED + 1; call < MOST_CALLS; call++) {
            boolean isLast = call == MOST_CALLS - 1;
            x.edge(1, 3, !isLast && call % 3 != 0);
        }
        return x;
    }

    private void last(String call, int want, ToIntFunction<CliqueSearch> ask) {
        s.due(call + " as the 512th", want, ask.applyAsInt(asked511Times()));
    }

    private void the512thCall() {
        s.says("What it is", "An object is used for at most 512 calls after it has been made", "1");
        last("node(1)", 6, x -> x.node(1));
        last("edge(0, 5, true)", 1, x -> x.edge(0, 5, true));
        last("weight(5, 1)", 7, x -> x.weight(5, 1));
        last("neighbours(0)", Nets.set(1, 2, 5), x -> x.neighbours(0));
        last("greatest()", Nets.set(0, 1, 2), CliqueSearch::greatest);
        last("heaviest()", Nets.set(4, 5), CliqueSearch::heaviest);
        last("maximal()", 4, CliqueSearch::maximal);
        last("maximal(3)", Nets.set(4, 5), x -> x.maximal(3));
        last("cliques(2)", 6, x -> x.cliques(2));
        last("cover()", Nets.set(0, 1, 4), CliqueSearch::cover);
        last("apart()", Nets.set(1, 3, 5), CliqueSearch::apart);
        last("near(2)", Nets.set(0, 1, 2), x -> x.near(2));
        last("colours(63)", 3, x -> x.colours(63));
        last("colour(63, 5)", 3, x -> x.colour(63, 5));
        last("peeled(0)", 3, x -> x.peeled(0));
        last("core(0)", 2, x -> x.core(0));
        last("search(100000)", Nets.set(0, 1, 2), x -> x.search(100000));
        last("searched(2)", 5, x -> x.searched(2));
        last("sure(4)", 0, x -> x.sure(4));
        last("taken(0)", Nets.set(0, 2, 4), x -> x.taken(0));
        last("sides()", NONE, CliqueSearch::sides);
        last("pairs()", 3, CliqueSearch::pairs);
        last("count(1)", 6, x -> x.count(1));
    }

    /** Their answers are free; that they end is all that is looked at. */
    private void callsBeyond512() {
        s.says("What it is", "what later calls answer is free.", "1");
        CliqueSearch x = asked511Times();
        for (int round = 0; round < 600; round++) {
            x.node(1 + round);
            x.edge(round % 16, (round + 7) % 16, round % 5 != 0);
            x.weight(round % 16, round);
            x.heaviest();
            x.maximal(round);
            x.cliques(round % 17);
            x.cover();
            x.near(round % 5);
            x.colour(0xFFFF, round % 16);
            x.peeled(round % 16);
            x.search(1 + round);
            x.sure(round % 17);
            x.pairs();
            Nets.state(x);
        }
        s.holds("calls behind the 512th end", true);
    }

    private void constants() {
        s.says("The public face", "BAD = -1, NONE = -2, FULL = -3", "2, 20, 22");
        s.due("BAD", -1, CliqueSearch.BAD);
        s.due("NONE", -2, CliqueSearch.NONE);
        s.due("FULL", -3, CliqueSearch.FULL);
        s.due("node(0): BAD", -1, new CliqueSearch().node(0));
        s.due("sides() of a triangle: NONE", -2, Nets.ring(3).sides());
        s.due("sure(0) of two: NONE", -2, Nets.net(2, 0, 1).sure(0));
        s.due("node(1) as the 17th: FULL", -3, Nets.net(16).node(1));
    }

    private void edgeJoinsTwo() {
        s.term("3", "An EDGE joins two NODES");
        CliqueSearch x = Nets.net(16);
        s.due("edge(15, 0, true)", 0, x.edge(15, 0, true));
        s.due("edge(0, 15, true): the same one", 1, x.edge(0, 15, true));
        s.due("count(1)", 1, x.count(1));
        s.due("edge(0, 0, true): one is not two", BAD, x.edge(0, 0, true));
        s.due("edge(15, 15, true): one is not two", BAD, x.edge(15, 15, true));
        s.due("count(1) behind it", 1, x.count(1));
    }

    private void neighboursAreThoseJoined() {
        s.term("5", "NEIGHBOURS of a NODE: those with which it is joined.");
        CliqueSearch all = Nets.fullNet(16);
        for (int v = 0; v < 16; v++) {
            s.due("neighbours(" + v + "): all but itself", 0xFFFF & ~(1 << v), all.neighbours(v));
        }
        CliqueSearch x = Nets.net(3, 0, 1, 1, 2);
        s.due("neighbours(0): not those of its NEIGHBOURS", Nets.set(1), x.neighbours(0));
        s.due("neighbours(1)", Nets.set(0, 2), x.neighbours(1));
    }

    private void setsAreBits() {
        s.term("5, 6, 14", "SETS of NODES are told as bits (NODE v is bit v).");
        for (int v = 0; v < 16; v++) {
            CliqueSearch x = Nets.net(16);
            x.weight(v, 2);
            s.due("heaviest() with " + v + " heavier", 1 << v, x.heaviest());
            s.due("colours() of bit " + v, 1, x.colours(1 << v));
            s.due("colour() of bit " + v, 1, x.colour(1 << v, v));
            s.due("colour() of all bits but " + v, BAD, x.colour(0xFFFF & ~(1 << v), v));
        }
        s.due("greatest() of all 16 bits", 65535, Nets.fullNet(16).greatest());
    }
}
