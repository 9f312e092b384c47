/** The whole face by the document's words: what it refuses, and what the Reference answers. */
final class Due {
    private static final int BAD = -1;
    private static final int FULL = -3;

    private final Reference net = new Reference();

    private boolean isNode(int v) {
        return v >= 0 && v < net.nodes();
    }

    private boolean isSet(int set) {
        for (int v = 0; v < 32; v++) {
            if ((set >> v & 1) == 1 && !isNode(v)) {
                return false;
            }
        }
        return true;
    }

    private static boolean isWeight(int w) {
        return w >= 1 && w <= 1000;
    }

    int node(int weight) {
        if (!isWeight(weight)) {
            return BAD;
        }
        if (net.nodes() == 16) {
            return FULL;
        }
        net.weights.add(weight);
        return net.nodes() - 1;
    }

    int edge(int a, int b, boolean on) {
        if (!isNode(a) || !isNode(b) || a == b) {
            return BAD;
        }
        int before = net.joined[a][b] ? 1 : 0;
        net.joined[a][b] = on;
        net.joined[b][a] = on;
        return before;
    }

    int weight(int v, int w) {
        return isNode(v) && isWeight(w) ? net.weights.set(v, w) : BAD;
    }

    int neighbours(int v) {
        return isNode(v) ? net.neighbours(v) : BAD;
    }

    int greatest() {
        return net.greatest();
    }

    int heaviest() {
        return net.heaviest();
    }

    int maximal() {
        return net.maximal().size();
    }

    int maximal(int k) {
        return k >= 0 && k < maximal() ? net.maximal().get(k) : BAD;
    }

    int cliques(int k) {
        return k >= 0 && k <= 16 ? net.cliques()[k] : BAD;
    }

    int cover() {
        return net.cover();
    }

    int apart() {
        return net.apart();
    }

    int near(int s) {
        return s >= 1 && s <= 4 ? net.near(s) : BAD;
    }

    int colours(int set) {
        return isSet(set) ? Reference.top(net.colours(set)) : BAD;
    }

    int colour(int set, int v) {
        return isSet(set) && isNode(v) && (set >> v & 1) == 1 ? net.colours(set)[v] : BAD;
    }

    int peeled(int k) {
        return isNode(k) ? net.peeling()[k] : BAD;
    }

    int core(int v) {
        return isNode(v) ? net.peeling()[net.nodes() + v] : BAD;
    }

    int search(int work) {
        return work >= 1 && work <= 100000 ? net.search(work) : BAD;
    }

    int searched(int what) {
        return what >= 0 && what <= 4 ? net.told[what] : BAD;
    }

    int sure(int k) {
        return k >= 0 && k <= 16 ? net.sure(k) : BAD;
    }

    int taken(int what) {
        return what == 0 || what == 1 ? net.tookTold[what] : BAD;
    }

    int sides() {
        return net.sides();
    }

    int pairs() {
        return net.pairs();
    }

    int count(int what) {
        return what >= 0 && what <= 3 ? net.count(what) : BAD;
    }
}
