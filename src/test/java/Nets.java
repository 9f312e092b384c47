/** Nets that more than one test makes, and a look at all that a net tells. */
final class Nets {
    /** So many calls have been made on what used() gives. */
    static final int CALLS_OF_USED = 14;

    private Nets() {
    }

    /** A net of n nodes of weight 1 with these edges, two numbers each. */
    static CliqueSearch net(int n, int... ends) {
        CliqueSearch x = new CliqueSearch();
        for (int v = 0; v < n; v++) {
            x.node(1);
        }
        for (int i = 0; i + 1 < ends.length; i += 2) {
            x.edge(ends[i], ends[i + 1], true);
        }
        return x;
    }

    /** All joined. */
    static CliqueSearch fullNet(int n) {
        CliqueSearch x = net(n);
        for (int a = 0; a < n; a++) {
            for (int b = 0; b < a; b++) {
                x.edge(a, b, true);
            }
        }
        return x;
    }

    static CliqueSearch ring(int n) {
        CliqueSearch x = net(n);
        for (int a = 0; a < n; a++) {
            x.edge(a, (a + 1) % n, true);
        }
        return x;
    }

    /** One node that is joined with all others, and they with no other. */
    static CliqueSearch star(int n, int middle) {
        CliqueSearch x = net(n);
        for (int v = 0; v < n; v++) {
            if (v != middle) {
                x.edge(middle, v, true);
            }
        }
        return x;
    }

    /** Parts of so many nodes each, one behind the other; all joined but for those of a part. */
    static CliqueSearch parts(int... sizes) {
        CliqueSearch x = new CliqueSearch();
        for (int size : sizes) {
            int before = x.count(0);
            for (int v = before; v < before + size; v++) {
                x.node(1);
                for (int u = 0; u < before; u++) {
                    x.edge(u, v, true);
                }
            }
        }
        return x;
    }

    /**
     * A triangle 0 1 2 and the row 0 5 4 3, weights 2 to 7, with a search that WORK ended
     * (searched 2, 3, 5, 1, 1) and a sure() that took nodes (taken 21, 1): nothing it tells is 0.
     */
    static CliqueSearch used() {
        CliqueSearch x = new CliqueSearch();
        for (int v = 0; v < 6; v++) {
            x.node(v + 2);
        }
        x.edge(0, 1, true);
        x.edge(0, 2, true);
        x.edge(1, 2, true);
        x.edge(3, 4, true);
        x.edge(4, 5, true);
        x.edge(0, 5, true);
        x.search(5);
        x.sure(4);
        return x;
    }

    /** The net of used() with ten nodes more, that are joined with no other. */
    static CliqueSearch usedOf16() {
        CliqueSearch x = used();
        for (int v = 6; v < 16; v++) {
            x.node(v + 2);
        }
        return x;
    }

    static int set(int... nodes) {
        int set = 0;
        for (int v : nodes) {
            set |= 1 << v;
        }
        return set;
    }

    /** All that a net tells and that telling does not change; it takes less than 100 calls. */
    static String state(CliqueSearch x) {
        StringBuilder text = new StringBuilder("count");
        for (int what = 0; what < 4; what++) {
            text.append(' ').append(x.count(what));
        }
        text.append(", neighbours and weights");
        for (int v = 0; v < x.count(0); v++) {
            int weight = x.weight(v, 1);
            x.weight(v, weight);
            text.append(' ').append(x.neighbours(v)).append('*').append(weight);
        }
        text.append(", searched");
        for (int what = 0; what < 5; what++) {
            text.append(' ').append(x.searched(what));
        }
        text.append(", taken ").append(x.taken(0)).append(' ').append(x.taken(1));
        text.append(", cliques ").append(x.greatest()).append(' ').append(x.heaviest());
        text.append(' ').append(x.maximal()).append(' ').append(x.cliques(2));
        text.append(", cover ").append(x.cover()).append(", apart ").append(x.apart());
        text.append(", near ").append(x.near(2)).append(", peeled ").append(x.peeled(0));
        text.append(", sides ").append(x.sides()).append(", pairs ").append(x.pairs());
        return text.toString();
    }
}
