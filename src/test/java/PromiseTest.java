/** The promises of the document one by one: ordinary inputs, the edges it names, wrong inputs. */
public final class PromiseTest {
    private static final int BAD = CliqueSearch.BAD;
    private static final int NONE = CliqueSearch.NONE;
    private static final int FULL = CliqueSearch.FULL;
    private static final int LEAST = Integer.MIN_VALUE;
    private static final int MOST = Integer.MAX_VALUE;
    private static final Check check = new Check("PromiseTest");

    public static void main(String[] args) {
        newObject();
        node();
        edge();
        weight();
        neighbours();
        greatest();
        heaviest();
        maximal();
        maximalByNumber();
        cliques();
        cover();
        apart();
        near();
        colours();
        colour();
        peeled();
        core();
        search();
        searchCutOff();
        searched();
        sure();
        taken();
        sides();
        pairs();
        count();
        wrongCallsChangeNothing();
        check.finish();
    }

    private static void due(String call, int want, int got) {
        check.due(call, want, got);
    }

    // 1
    private static void newObject() {
        CliqueSearch x = new CliqueSearch();
        due("1 count(0)", 0, x.count(0));
        due("1 count(1)", 0, x.count(1));
        due("1 count(2)", 0, x.count(2));
        due("1 count(3)", 0, x.count(3));
        due("1 neighbours(0)", BAD, x.neighbours(0));
        x.node(1);
        due("1 another object is its own", 0, new CliqueSearch().count(0));
    }

    // 2
    private static void node() {
        CliqueSearch x = new CliqueSearch();
        due("2 node(0)", BAD, x.node(0));
        due("2 node(1001)", BAD, x.node(1001));
        due("2 node(-1)", BAD, x.node(-1));
        due("2 node(least)", BAD, x.node(LEAST));
        due("2 node(most)", BAD, x.node(MOST));
        due("2 none was added", 0, x.count(0));
        due("2 node(1)", 0, x.node(1));
        due("2 node(1000)", 1, x.node(1000));
        due("2 weights", 1001, x.count(2));
        due("2 no neighbours at first", 0, x.neighbours(1));
        for (int v = 2; v < 16; v++) {
            due("2 node", v, x.node(7));
        }
        due("2 a 17th", FULL, x.node(1));
        due("2 a 17th of wrong weight", BAD, x.node(0));
        due("2 still 16", 16, x.count(0));
        due("2 weights of 16", 1001 + 14 * 7, x.count(2));
    }

    // 3
    private static void edge() {
        CliqueSearch x = Nets.net(16);
        due("3 new", 0, x.edge(0, 15, true));
        due("3 it was", 1, x.edge(15, 0, true));
        due("3 count", 1, x.count(1));
        due("3 off", 1, x.edge(15, 0, false));
        due("3 off again", 0, x.edge(0, 15, false));
        due("3 neighbours of 0", 0, x.neighbours(0));
        due("3 neighbours of 15", 0, x.neighbours(15));
        due("3 on again", 0, x.edge(0, 15, true));
        due("3 same node", BAD, x.edge(3, 3, true));
        due("3 same node, off", BAD, x.edge(3, 3, false));
        due("3 a below", BAD, x.edge(-1, 3, true));
        due("3 b below", BAD, x.edge(3, -1, true));
        due("3 a above", BAD, x.edge(16, 3, true));
        due("3 b above", BAD, x.edge(3, 16, false));
        due("3 far off", BAD, x.edge(LEAST, MOST, true));
        due("3 a node that bits would wrap to", BAD, x.edge(32, 1, true));
        due("3 count behind wrong ones", 1, x.count(1));
        due("3 no nodes", BAD, new CliqueSearch().edge(0, 1, true));
        due("3 one node", BAD, Nets.net(1).edge(0, 1, true));
    }

    // 4
    private static void weight() {
        CliqueSearch x = Nets.net(2);
        due("4 what it was", 1, x.weight(0, 1000));
        due("4 and then", 1000, x.weight(0, 1));
        due("4 of the other", 1, x.weight(1, 30));
        due("4 together", 31, x.count(2));
        due("4 weight 0", BAD, x.weight(0, 0));
        due("4 weight 1001", BAD, x.weight(0, 1001));
        due("4 weight -5", BAD, x.weight(0, -5));
        due("4 node -1", BAD, x.weight(-1, 5));
        due("4 node 2", BAD, x.weight(2, 5));
        due("4 far off", BAD, x.weight(MOST, MOST));
        due("4 as it was", 1, x.weight(0, 2));
        due("4 no nodes", BAD, new CliqueSearch().weight(0, 1));
    }

    // 5
    private static void neighbours() {
        CliqueSearch x = Nets.net(16, 0, 1, 0, 15, 7, 0);
        due("5 of 0", Nets.set(1, 7, 15), x.neighbours(0));
        due("5 of 15", Nets.set(0), x.neighbours(15));
        due("5 of 2", 0, x.neighbours(2));
        x.edge(1, 0, false);
        due("5 one less", Nets.set(7, 15), x.neighbours(0));
        due("5 -1", BAD, x.neighbours(-1));
        due("5 16", BAD, x.neighbours(16));
        due("5 far off", BAD, x.neighbours(LEAST));
    }

    // 6
    private static void greatest() {
        due("6 no nodes", 0, new CliqueSearch().greatest());
        due("6 one node", 1, Nets.net(1).greatest());
        due("6 no edges", 1, Nets.net(16).greatest());
        due("6 all joined", 65535, Nets.fullNet(16).greatest());
        CliqueSearch x = Nets.net(6, 3, 4, 4, 5, 5, 3, 0, 1);
        due("6 the greater one", Nets.set(3, 4, 5), x.greatest());
        x.edge(1, 5, true);
        x.edge(0, 5, true);
        due("6 the first of two", Nets.set(0, 1, 5), x.greatest());
        x.weight(3, 1000);
        due("6 weights are nothing", Nets.set(0, 1, 5), x.greatest());
        x.edge(0, 5, false);
        due("6 behind a change", Nets.set(3, 4, 5), x.greatest());
        // As numbers {1, 2} is 6 and {0, 3} is 9, but {0, 3} comes first.
        due("6 order is not the number's", Nets.set(0, 3), Nets.net(4, 1, 2, 0, 3).greatest());
    }

    // 7
    private static void heaviest() {
        due("7 no nodes", 0, new CliqueSearch().heaviest());
        CliqueSearch x = Nets.net(5, 0, 1, 1, 2, 0, 2, 3, 4);
        due("7 all of weight 1", Nets.set(0, 1, 2), x.heaviest());
        x.weight(4, 3);
        due("7 fewer nodes", Nets.set(3, 4), x.heaviest());
        x.weight(3, 1);
        x.weight(4, 2);
        due("7 like ones: the first", Nets.set(0, 1, 2), x.heaviest());
        x.weight(3, 1000);
        due("7 by one weight", Nets.set(3, 4), x.heaviest());
        CliqueSearch y = Nets.net(3, 1, 2);
        y.weight(0, 2);
        due("7 like ones of unlike sizes", Nets.set(0), y.heaviest());
        CliqueSearch z = Nets.fullNet(16);
        for (int v = 0; v < 16; v++) {
            z.weight(v, 1000);
        }
        due("7 16 of weight 1000", 65535, z.heaviest());
    }

    // 8
    private static void maximal() {
        due("8 no nodes", 1, new CliqueSearch().maximal());
        due("8 one node", 1, Nets.net(1).maximal());
        due("8 no edges", 16, Nets.net(16).maximal());
        due("8 all joined", 1, Nets.fullNet(16).maximal());
        due("8 a ring", 16, Nets.ring(16).maximal());
        due("8 a ring of three", 1, Nets.ring(3).maximal());
        due("8 the most there can be", 324, Nets.parts(3, 3, 3, 3, 4).maximal());
    }

    // 9
    private static void maximalByNumber() {
        CliqueSearch none = new CliqueSearch();
        due("9 no nodes, 0", 0, none.maximal(0));
        due("9 no nodes, 1", BAD, none.maximal(1));
        CliqueSearch x = Nets.net(5, 0, 4, 0, 1, 1, 4, 1, 2, 2, 3);
        due("9 how many", 3, x.maximal());
        due("9 first", Nets.set(0, 1, 4), x.maximal(0));
        due("9 second", Nets.set(1, 2), x.maximal(1));
        due("9 third", Nets.set(2, 3), x.maximal(2));
        due("9 beyond", BAD, x.maximal(3));
        due("9 below", BAD, x.maximal(-1));
        due("9 far off", BAD, x.maximal(MOST));
        due("9 far off below", BAD, x.maximal(LEAST));
        x.edge(1, 4, false);
        due("9 behind a change, 0", Nets.set(0, 1), x.maximal(0));
        due("9 behind a change, 1", Nets.set(0, 4), x.maximal(1));
        x.node(1);
        due("9 behind a node more", Nets.set(5), x.maximal(4));
        CliqueSearch most = Nets.parts(3, 3, 3, 3, 4);
        due("9 first of 324", Nets.set(0, 3, 6, 9, 12), most.maximal(0));
        due("9 fourth of 324", Nets.set(0, 3, 6, 9, 15), most.maximal(3));
        due("9 last of 324", Nets.set(2, 5, 8, 11, 15), most.maximal(323));
        due("9 beyond 324", BAD, most.maximal(324));
    }

    // 10
    private static void cliques() {
        CliqueSearch none = new CliqueSearch();
        due("10 none of no nodes", 1, none.cliques(0));
        due("10 one of no nodes", 0, none.cliques(1));
        due("10 16 of no nodes", 0, none.cliques(16));
        due("10 -1", BAD, none.cliques(-1));
        due("10 17", BAD, none.cliques(17));
        due("10 far off", BAD, none.cliques(MOST));
        CliqueSearch all = Nets.fullNet(16);
        int ways = 1;
        for (int k = 0; k <= 16; k++) {
            due("10 all joined, " + k, ways, all.cliques(k));
            ways = ways * (16 - k) / (k + 1);
        }
        CliqueSearch x = Nets.net(5, 0, 1, 1, 2, 0, 2, 2, 3);
        due("10 of 0", 1, x.cliques(0));
        due("10 of 1", 5, x.cliques(1));
        due("10 of 2", 4, x.cliques(2));
        due("10 of 3", 1, x.cliques(3));
        due("10 of 4", 0, x.cliques(4));
        x.edge(1, 3, true);
        due("10 of 3 behind a change", 2, x.cliques(3));
    }

    // 11
    private static void cover() {
        due("11 no nodes", 0, new CliqueSearch().cover());
        due("11 no edges", 0, Nets.net(16).cover());
        due("11 an edge", Nets.set(3), Nets.net(16, 15, 3).cover());
        due("11 all joined", 32767, Nets.fullNet(16).cover());
        due("11 a star", Nets.set(9), Nets.net(12, 9, 0, 9, 4, 9, 11).cover());
        due("11 a row", Nets.set(0, 2), Nets.net(4, 0, 1, 1, 2, 2, 3).cover());
        due("11 a ring of five", Nets.set(0, 1, 3), Nets.ring(5).cover());
        // The complement of apart() would be {1, 3}.
        due("11 not what apart() leaves", Nets.set(0, 2), Nets.ring(4).cover());
    }

    // 12
    private static void apart() {
        due("12 no nodes", 0, new CliqueSearch().apart());
        due("12 no edges", 65535, Nets.net(16).apart());
        due("12 all joined", Nets.set(0), Nets.fullNet(16).apart());
        due("12 a ring of four", Nets.set(0, 2), Nets.ring(4).apart());
        due("12 a ring of five", Nets.set(0, 2), Nets.ring(5).apart());
        due("12 a star", Nets.set(0, 1, 3, 4), Nets.net(5, 2, 0, 2, 1, 2, 3, 2, 4).apart());
        CliqueSearch x = Nets.net(3, 0, 1, 0, 2);
        due("12 without the first node", Nets.set(1, 2), x.apart());
        x.edge(1, 2, true);
        due("12 behind a change", Nets.set(0), x.apart());
    }

    // 13
    private static void near() {
        CliqueSearch none = new CliqueSearch();
        due("13 no nodes, 1", 0, none.near(1));
        due("13 no nodes, 4", 0, none.near(4));
        due("13 s 0", BAD, none.near(0));
        due("13 s 5", BAD, none.near(5));
        due("13 s -1", BAD, none.near(-1));
        due("13 s far off", BAD, none.near(MOST));
        CliqueSearch apart = Nets.net(16);
        for (int s = 1; s <= 4; s++) {
            due("13 no edges, " + s, (1 << s) - 1, apart.near(s));
        }
        CliqueSearch all = Nets.fullNet(16);
        due("13 all joined, 1", 65535, all.near(1));
        due("13 all joined, 4", 65535, all.near(4));
        all.edge(0, 15, false);
        due("13 but for one edge, 1", 32767, all.near(1));
        due("13 but for one edge, 2", 65535, all.near(2));
        due("13 a ring of four, 2", 15, Nets.ring(4).near(2));
        due("13 a ring of five, 2", Nets.set(0, 1, 2), Nets.ring(5).near(2));
        due("13 a ring of five, 3", 31, Nets.ring(5).near(3));
        due("13 a ring of six, 4", 63, Nets.ring(6).near(4));
        CliqueSearch x = Nets.net(7, 3, 4, 4, 5, 5, 6, 6, 3, 3, 5, 4, 6);
        due("13 the first nodes are not of it", Nets.set(3, 4, 5, 6), x.near(1));
        due("13 nor by 2", Nets.set(3, 4, 5, 6), x.near(2));
    }

    // 14
    private static void colours() {
        due("14 no nodes", 0, new CliqueSearch().colours(0));
        due("14 no nodes, a bit", BAD, new CliqueSearch().colours(1));
        due("14 all joined", 16, Nets.fullNet(16).colours(65535));
        due("14 no edges", 1, Nets.net(16).colours(65535));
        due("14 bit 16", BAD, Nets.net(16).colours(65536));
        due("14 negative", BAD, Nets.net(16).colours(-1));
        due("14 least", BAD, Nets.net(16).colours(LEAST));
        due("14 a row", 2, Nets.net(4, 0, 1, 1, 2, 2, 3).colours(15));
        // Both ends get 1 first, so it takes a third colour.
        CliqueSearch turned = Nets.net(4, 0, 2, 2, 3, 3, 1);
        due("14 a row with its ends first", 3, turned.colours(15));
        due("14 a part of it", 2, turned.colours(Nets.set(0, 2, 3)));
        due("14 none of it", 0, turned.colours(0));
        due("14 other nodes", BAD, turned.colours(16));
    }

    // 15
    private static void colour() {
        CliqueSearch x = Nets.net(4, 0, 2, 2, 3, 3, 1);
        due("15 of 0", 1, x.colour(15, 0));
        due("15 of 1", 1, x.colour(15, 1));
        due("15 of 2", 2, x.colour(15, 2));
        due("15 of 3", 3, x.colour(15, 3));
        due("15 of 3 without 2", 2, x.colour(Nets.set(0, 1, 3), 3));
        due("15 of 3 alone", 1, x.colour(Nets.set(3), 3));
        due("15 not of the set", BAD, x.colour(Nets.set(0, 1), 3));
        due("15 no node", BAD, x.colour(15, 4));
        due("15 below", BAD, x.colour(15, -1));
        due("15 a node that bits would wrap to", BAD, x.colour(15, 32));
        due("15 far off", BAD, x.colour(15, LEAST));
        due("15 bits of other nodes", BAD, x.colour(31, 0));
        due("15 negative", BAD, x.colour(-1, 0));
        due("15 no nodes", BAD, new CliqueSearch().colour(0, 0));
        due("15 the 16th colour", 16, Nets.fullNet(16).colour(65535, 15));
    }

    // 16
    private static void peeled() {
        due("16 no nodes", BAD, new CliqueSearch().peeled(0));
        // Degrees 2, 2, 3, 1 and 0; behind 4 and 3 the three others have two each.
        CliqueSearch x = Nets.net(5, 0, 1, 1, 2, 0, 2, 2, 3);
        int[] order = {4, 3, 0, 1, 2};
        for (int k = 0; k < 5; k++) {
            due("16 number " + k, order[k], x.peeled(k));
        }
        due("16 number 5", BAD, x.peeled(5));
        due("16 number -1", BAD, x.peeled(-1));
        due("16 far off", BAD, x.peeled(MOST));
        x.edge(4, 2, true);
        due("16 behind a change, 0", 3, x.peeled(0));
        due("16 behind a change, 1", 4, x.peeled(1));
        due("16 the last of 16", 15, Nets.net(16).peeled(15));
        due("16 no 17th", BAD, Nets.net(16).peeled(16));
        // A star: the middle is first among the last two, as both have one neighbour.
        CliqueSearch star = Nets.net(4, 0, 1, 0, 2, 0, 3);
        due("16 star 0", 1, star.peeled(0));
        due("16 star 1", 2, star.peeled(1));
        due("16 star 2", 0, star.peeled(2));
        due("16 star 3", 3, star.peeled(3));
    }

    // 17
    private static void core() {
        due("17 no nodes", BAD, new CliqueSearch().core(0));
        CliqueSearch x = Nets.net(5, 0, 1, 1, 2, 0, 2, 2, 3);
        int[] cores = {2, 2, 2, 1, 0};
        for (int v = 0; v < 5; v++) {
            due("17 of " + v, cores[v], x.core(v));
        }
        due("17 -1", BAD, x.core(-1));
        due("17 5", BAD, x.core(5));
        due("17 far off", BAD, x.core(LEAST));
        x.edge(0, 1, false);
        due("17 behind a change", 1, x.core(2));
        due("17 all joined", 15, Nets.fullNet(16).core(15));
        due("17 the most up to it", 1, Nets.net(4, 0, 1, 0, 2, 0, 3).core(3));
    }

    // 18
    private static void search() {
        CliqueSearch none = new CliqueSearch();
        due("18 work 0", BAD, none.search(0));
        due("18 work -1", BAD, none.search(-1));
        due("18 work 100001", BAD, none.search(100001));
        due("18 work far off", BAD, none.search(LEAST));
        due("18 no nodes", 0, none.search(1));
        tells("18 no nodes", none, 0, 0, 1, 0, 0);
        due("18 all joined", 65535, Nets.fullNet(16).search(100000));
        CliqueSearch apart = Nets.net(16);
        due("18 no edges: the greatest number first", Nets.set(15), apart.search(100000));
        tells("18 no edges", apart, 1, 1, 2, 1, 0);
        // Colours 1 1 2 3: node 3 finds {2, 3} and cuts 1; then node 2 is cut.
        CliqueSearch row = Nets.net(4, 0, 2, 2, 3, 3, 1);
        due("18 a row with its ends first", Nets.set(2, 3), row.search(100000));
        tells("18 a row with its ends first", row, 2, 2, 3, 2, 0);
        // Colours 1 1 1 2: node 3 finds {2, 3} and cuts 1; then node 2 is cut.
        CliqueSearch star = Nets.net(4, 3, 0, 3, 1, 3, 2);
        due("18 a star", Nets.set(2, 3), star.search(100000));
        tells("18 a star", star, 2, 2, 3, 2, 0);
        // Colours 1 2 1 2 3: node 4 finds {3, 4} and cuts 0; then node 3 is cut.
        CliqueSearch five = Nets.ring(5);
        due("18 a ring of five", Nets.set(3, 4), five.search(100000));
        tells("18 a ring of five", five, 2, 2, 3, 2, 0);
    }

    private static void searchCutOff() {
        CliqueSearch all = Nets.fullNet(16);
        due("18 cut off at 1", 0, all.search(1));
        tells("18 cut off at 1", all, 0, 16, 1, 0, 1);
        due("18 cut off at 16", 0, all.search(16));
        tells("18 cut off at 16", all, 0, 16, 16, 0, 1);
        due("18 17 are enough", 65535, all.search(17));
        tells("18 17 are enough", all, 16, 16, 17, 15, 0);
        // Colours 1 2 3 1 2 3. Node 5 finds {4, 5} and cuts 0; node 2 finds {0, 1, 2} and cuts
        // 0; then node 4 is cut.
        CliqueSearch x = Nets.net(6, 0, 1, 0, 2, 1, 2, 3, 4, 4, 5, 0, 5);
        due("18 late", Nets.set(0, 1, 2), x.search(100000));
        tells("18 late", x, 3, 3, 6, 3, 0);
        due("18 late, 6", Nets.set(0, 1, 2), x.search(6));
        tells("18 late, 6", x, 3, 3, 6, 3, 0);
        due("18 late, 5", Nets.set(4, 5), x.search(5));
        tells("18 late, 5", x, 2, 3, 5, 1, 1);
        due("18 late, 3", Nets.set(4, 5), x.search(3));
        tells("18 late, 3", x, 2, 3, 3, 1, 1);
        due("18 late, 2", 0, x.search(2));
        tells("18 late, 2", x, 0, 3, 2, 0, 1);
    }

    private static void tells(String of, CliqueSearch x, int... want) {
        for (int what = 0; what < want.length; what++) {
            due(of + ", searched(" + what + ")", want[what], x.searched(what));
        }
    }

    // 19
    private static void searched() {
        CliqueSearch x = Nets.fullNet(3);
        tells("19 before", x, 0, 0, 0, 0, 0);
        due("19 BAD before", BAD, x.search(0));
        tells("19 behind a BAD one", x, 0, 0, 0, 0, 0);
        due("19 what -1", BAD, x.searched(-1));
        due("19 what 5", BAD, x.searched(5));
        due("19 what far off", BAD, x.searched(MOST));
        x.search(2);
        tells("19 cut off", x, 0, 3, 2, 0, 1);
        x.edge(0, 1, false);
        x.node(1);
        x.colours(7);
        tells("19 as it was then", x, 0, 3, 2, 0, 1);
        x.search(100001);
        tells("19 as it was behind a BAD one", x, 0, 3, 2, 0, 1);
        x.search(100000);
        due("19 of the latest: LOWER", 2, x.searched(0));
        due("19 of the latest: UPPER", 2, x.searched(1));
        due("19 of the latest: ended", 0, x.searched(4));
    }

    // 20
    private static void sure() {
        CliqueSearch none = new CliqueSearch();
        due("20 k -1", BAD, none.sure(-1));
        due("20 k 17", BAD, none.sure(17));
        due("20 k far off", BAD, none.sure(LEAST));
        due("20 no nodes, 0", 0, none.sure(0));
        due("20 no nodes, 16", 0, none.sure(16));
        due("20 no edges, 0", 0, Nets.net(16).sure(0));
        due("20 an edge, 0", NONE, Nets.net(2, 0, 1).sure(0));
        due("20 an edge, 1", 0, Nets.net(2, 0, 1).sure(1));
        due("20 all joined, 16", 65535, Nets.fullNet(16).sure(16));
        due("20 all joined, 15", 65535, Nets.fullNet(16).sure(15));
        due("20 all joined, 14", NONE, Nets.fullNet(16).sure(14));
        // Each of a ring of five has two: at 2 none of the rules holds, but 5 > 2 * 2.
        due("20 a ring of five, 3", 31, Nets.ring(5).sure(3));
        due("20 a ring of five, 2", NONE, Nets.ring(5).sure(2));
        // With 4 of 4 edges it is left as it is.
        due("20 a ring of four, 2", 15, Nets.ring(4).sure(2));
        due("20 a ring of four, 1", NONE, Nets.ring(4).sure(1));
        // The middle of a star goes by rule 2 at 2, by rule 3 at 3.
        due("20 a star, 2", 0, Nets.net(4, 3, 0, 3, 1, 3, 2).sure(2));
        due("20 a star, 3", 0, Nets.net(4, 3, 0, 3, 1, 3, 2).sure(3));
        // A triangle with a tail: node 0 goes by rule 2 (3 > 2), then node 2 by rule 3.
        due("20 a tail", 0, Nets.net(4, 0, 1, 1, 2, 2, 0, 0, 3).sure(2));
        due("20 a tail, 1", NONE, Nets.net(4, 0, 1, 1, 2, 2, 0, 0, 3).sure(1));
    }

    // 21
    private static void taken() {
        CliqueSearch x = Nets.net(5, 0, 1, 1, 2, 2, 3);
        due("21 before, 0", 0, x.taken(0));
        due("21 before, 1", 0, x.taken(1));
        due("21 what -1", BAD, x.taken(-1));
        due("21 what 2", BAD, x.taken(2));
        due("21 what far off", BAD, x.taken(MOST));
        due("21 sure(1)", NONE, x.sure(1));
        due("21 behind NONE, 0", 0, x.taken(0));
        due("21 behind NONE, 1", 0, x.taken(1));
        // Rule 1 for node 4, rule 3 for node 0 (1 is taken), then for node 2 (3 is taken).
        due("21 sure(4)", 0, x.sure(4));
        due("21 of 4, 0", Nets.set(1, 3), x.taken(0));
        due("21 of 4, 1", 2, x.taken(1));
        x.sure(17);
        x.sure(-1);
        due("21 behind BAD", Nets.set(1, 3), x.taken(0));
        x.sure(0);
        due("21 behind NONE again, 0", Nets.set(1, 3), x.taken(0));
        due("21 behind NONE again, 1", 2, x.taken(1));
        x.edge(0, 1, false);
        due("21 as it was then", Nets.set(1, 3), x.taken(0));
        due("21 sure(3)", 0, x.sure(3));
        due("21 of 3, 0", Nets.set(2), x.taken(0));
        due("21 of 3, 1", 2, x.taken(1));
        // Rule 2 goes before rule 3 for node 1, which has one neighbour.
        CliqueSearch y = Nets.net(7, 0, 1, 0, 2, 0, 4, 3, 4, 3, 5, 3, 6);
        due("21 two stars", 0, y.sure(2));
        due("21 two stars, 0", Nets.set(0, 3), y.taken(0));
        due("21 two stars, 1", 0, y.taken(1));
        // Rule 2 by k as it is then: 0 and 2 have three, which is too many once 5 is taken.
        CliqueSearch z = Nets.net(6, 0, 1, 1, 2, 2, 3, 3, 0, 0, 2, 4, 5);
        due("21 rule 2 behind rule 3", 0, z.sure(3));
        due("21 rule 2 behind rule 3, 0", Nets.set(0, 2, 5), z.taken(0));
        due("21 rule 2 behind rule 3, 1", 0, z.taken(1));
        due("21 no rule behind rule 3", 15, z.sure(4));
        due("21 no rule behind rule 3, 0", Nets.set(5), z.taken(0));
        due("21 no rule behind rule 3, 1", 3, z.taken(1));
    }

    // 22
    private static void sides() {
        due("22 no nodes", 0, new CliqueSearch().sides());
        due("22 no edges", 0, Nets.net(16).sides());
        due("22 an edge", Nets.set(15), Nets.net(16, 15, 2).sides());
        due("22 a ring of three", NONE, Nets.ring(3).sides());
        due("22 a ring of 15", NONE, Nets.ring(15).sides());
        due("22 a ring of 16", 0xAAAA, Nets.ring(16).sides());
        due("22 two parts", Nets.set(1, 2, 4), Nets.net(6, 0, 1, 0, 2, 3, 4, 4, 5).sides());
        due("22 one part without sides", NONE, Nets.net(6, 0, 1, 2, 3, 3, 4, 4, 2).sides());
        // The least node is on side 0 though it is met last along the row.
        due("22 a row", Nets.set(3, 1), Nets.net(4, 1, 2, 2, 3, 3, 0).sides());
    }

    // 23
    private static void pairs() {
        due("23 no nodes", 0, new CliqueSearch().pairs());
        due("23 no edges", 0, Nets.net(16).pairs());
        due("23 all joined", 8, Nets.fullNet(16).pairs());
        due("23 15 all joined", 7, Nets.fullNet(15).pairs());
        due("23 a star", 1, Nets.net(5, 2, 0, 2, 1, 2, 3, 2, 4).pairs());
        due("23 a row, its middle first", 2, Nets.net(4, 0, 1, 0, 2, 1, 3).pairs());
        due("23 a ring of 15", 7, Nets.ring(15).pairs());
        due("23 two triangles at one node", 2,
                Nets.net(5, 0, 1, 1, 2, 2, 0, 2, 3, 3, 4, 4, 2).pairs());
        // Two rings of five whose tails need a way through both of them.
        due("23 through rings", 6,
                Nets.net(12, 0, 1, 1, 2, 2, 3, 3, 4, 4, 0, 5, 6, 6, 7, 7, 8, 8, 9, 9, 5, 2, 7, 10,
                        0, 11, 9).pairs());
        due("23 three triangles around a node", 4, Nets.net(10, 0, 1, 1, 2, 2, 0, 3, 4, 4, 5, 5, 3,
                6, 7, 7, 8, 8, 6, 9, 0, 9, 3, 9, 6).pairs());
    }

    // 24
    private static void count() {
        CliqueSearch x = Nets.net(6, 0, 1, 1, 2, 4, 5);
        x.weight(5, 1000);
        due("24 nodes", 6, x.count(0));
        due("24 edges", 3, x.count(1));
        due("24 weights", 1005, x.count(2));
        due("24 parts", 3, x.count(3));
        due("24 what -1", BAD, x.count(-1));
        due("24 what 4", BAD, x.count(4));
        due("24 what far off", BAD, x.count(LEAST));
        x.edge(3, 0, true);
        x.edge(3, 4, true);
        due("24 one part", 1, x.count(3));
        due("24 edges then", 5, x.count(1));
        due("24 16 parts", 16, Nets.net(16).count(3));
        due("24 120 edges", 120, Nets.fullNet(16).count(1));
        due("24 a long row is one part", 1,
                Nets.net(16, 0, 15, 15, 1, 1, 14, 14, 2, 2, 13, 13, 3, 3, 12, 12, 4, 4, 11, 11, 5,
                        5, 10, 10, 6, 6, 9, 9, 7, 7, 8).count(3));
    }

    private static void wrongCallsChangeNothing() {
        CliqueSearch x = Nets.net(4, 0, 1, 1, 2);
        x.search(100);
        x.sure(2);
        int[] wrong = {
            x.node(0), x.edge(0, 0, true), x.edge(0, 4, true), x.weight(0, 0), x.weight(4, 1),
            x.neighbours(4), x.maximal(99), x.cliques(17), x.near(0), x.colours(16),
            x.colour(15, 4), x.peeled(4), x.core(4), x.search(0), x.searched(5), x.sure(17),
            x.taken(2), x.count(4)
        };
        for (int i = 0; i < wrong.length; i++) {
            due("wrong call " + i, BAD, wrong[i]);
        }
        due("nodes behind wrong calls", 4, x.count(0));
        due("edges behind wrong calls", 2, x.count(1));
        due("weights behind wrong calls", 4, x.count(2));
        due("LOWER behind wrong calls", 2, x.searched(0));
        due("taken behind wrong calls", Nets.set(1), x.taken(0));
    }
}
