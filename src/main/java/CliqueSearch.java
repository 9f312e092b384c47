import java.util.Arrays;

/**
 * Cliques, covers, colours and pairs of a small net of weighted nodes.
 *
 * <p>Sets of nodes are ints, node v being bit v. Every row is made with the object and used
 * again, so that no call makes anything.
 */
public final class CliqueSearch {
    public static final int BAD = -1, NONE = -2, FULL = -3;

    private static final int MOST_NODES = 16;
    private static final int MOST_WEIGHT = 1000;
    private static final int MOST_WORK = 100000;
    private static final int MOST_NEAR = 4;

    private final Net net;
    private final MaximalSets joinedSets;
    private final MaximalSets apartSets;
    private final SizeCounts sizeCounts;
    private final NearSets nearSets;
    private final Peeling peeling;
    private final Search latestSearch;
    private final SureCover sureCover;
    private final Matching matching;
    private final int[] nodesByColour;

    public CliqueSearch() {
        net = new Net();
        joinedSets = new MaximalSets(net, false);
        apartSets = new MaximalSets(net, true);
        sizeCounts = new SizeCounts(net);
        nearSets = new NearSets(net);
        peeling = new Peeling(net);
        latestSearch = new Search(net);
        sureCover = new SureCover(net);
        matching = new Matching(net);
        nodesByColour = new int[MOST_NODES + 1];
    }

    // ---- the net

    public int node(int weight) {
        if (!isWeight(weight)) {
            return BAD;
        }
        return net.isFull() ? FULL : net.add(weight);
    }

    public int edge(int a, int b, boolean on) {
        if (!net.has(a) || !net.has(b) || a == b) {
            return BAD;
        }
        int before = holds(net.linksOf(a), b) ? 1 : 0;
        net.join(a, b, on);
        return before;
    }

    public int weight(int v, int w) {
        return net.has(v) && isWeight(w) ? net.reweigh(v, w) : BAD;
    }

    public int neighbours(int v) {
        return net.has(v) ? net.linksOf(v) : BAD;
    }

    // ---- cliques

    public int greatest() {
        return joinedSets.firstLargest();
    }

    public int heaviest() {
        return joinedSets.firstHeaviest();
    }

    public int maximal() {
        return joinedSets.howMany();
    }

    public int maximal(int k) {
        return k >= 0 && k < joinedSets.howMany() ? joinedSets.at(k) : BAD;
    }

    public int cliques(int k) {
        return k >= 0 && k <= MOST_NODES ? sizeCounts.ofSize(k) : BAD;
    }

    public int cover() {
        // What a least cover leaves is a largest set apart. Of two such sets the one that lacks
        // the first unlike node comes later, and its cover, which has that node, comes earlier.
        return net.allNodes() & ~apartSets.lastLargest();
    }

    public int apart() {
        return apartSets.firstLargest();
    }

    public int near(int s) {
        return s >= 1 && s <= MOST_NEAR ? nearSets.largest(s) : BAD;
    }

    // ---- colours, peeling

    public int colours(int set) {
        return net.hasAll(set) ? net.paint(set, nodesByColour) : BAD;
    }

    public int colour(int set, int v) {
        if (!net.hasAll(set) || !net.has(v) || !holds(set, v)) {
            return BAD;
        }
        int top = net.paint(set, nodesByColour);
        for (int c = 1; c <= top && c < nodesByColour.length; c++) {
            if (holds(nodesByColour[c], v)) {
                return c;
            }
        }
        return BAD;
    }

    public int peeled(int k) {
        return net.has(k) ? peeling.nodeAt(k) : BAD;
    }

    public int core(int v) {
        return net.has(v) ? peeling.coreOf(v) : BAD;
    }

    // ---- the search

    public int search(int work) {
        return work >= 1 && work <= MOST_WORK ? latestSearch.run(work) : BAD;
    }

    public int searched(int what) {
        switch (what) {
            case 0:
                return latestSearch.lower;
            case 1:
                return latestSearch.upper;
            case 2:
                return latestSearch.begun;
            case 3:
                return latestSearch.cut;
            case 4:
                return latestSearch.outOfWork ? 1 : 0;
            default:
                return BAD;
        }
    }

    // ---- covers, sides, pairs

    public int sure(int k) {
        return k >= 0 && k <= MOST_NODES ? sureCover.reduce(k) : BAD;
    }

    public int taken(int what) {
        switch (what) {
            case 0:
                return sureCover.keptTaken;
            case 1:
                return sureCover.keptRoom;
            default:
                return BAD;
        }
    }

    public int sides() {
        int sideOne = 0;
        int seen = 0;
        for (int v = 0; v < net.nodes; v++) {
            if (holds(seen, v)) {
                continue;
            }
            int even = net.reach(v, false);
            int odd = net.reach(v, true);
            if ((even & odd) != 0) {
                return NONE;
            }
            sideOne |= odd;
            seen |= even | odd;
        }
        return sideOne;
    }

    public int pairs() {
        return matching.size();
    }

    public int count(int what) {
        switch (what) {
            case 0:
                return net.nodes;
            case 1:
                return net.edgesWithin(net.allNodes());
            case 2:
                return net.weightOf(net.allNodes());
            case 3:
                return net.parts();
            default:
                return BAD;
        }
    }

    private static boolean isWeight(int w) {
        return w >= 1 && w <= MOST_WEIGHT;
    }

    private static boolean holds(int set, int v) {
        return (set >> v & 1) != 0;
    }

    /** The nodes, their weights and their edges. */
    private static final class Net {
        private int nodes;
        /** Tells those who keep what they found whether it is still about this net. */
        private int changes;
        private final int[] weights = new int[MOST_NODES];
        private final int[] links = new int[MOST_NODES];

        private boolean isFull() {
            return nodes >= MOST_NODES;
        }

        private boolean has(int v) {
            return v >= 0 && v < nodes;
        }

        private boolean hasAll(int set) {
            return (set & ~allNodes()) == 0;
        }

        private int allNodes() {
            return (1 << nodes) - 1;
        }

        private int add(int weight) {
            if (isFull()) {
                return FULL;
            }
            int v = nodes;
            weights[v] = weight;
            links[v] = 0;
            nodes++;
            changes++;
            return v;
        }

        private void join(int a, int b, boolean on) {
            if (!has(a) || !has(b)) {
                return;
            }
            if (on) {
                links[a] |= 1 << b;
                links[b] |= 1 << a;
            } else {
                links[a] &= ~(1 << b);
                links[b] &= ~(1 << a);
            }
            changes++;
        }

        private int reweigh(int v, int weight) {
            if (!has(v)) {
                return BAD;
            }
            int before = weights[v];
            weights[v] = weight;
            return before;
        }

        private int linksOf(int v) {
            return has(v) ? links[v] : 0;
        }

        private int degree(int v, int set) {
            return Integer.bitCount(linksOf(v) & set);
        }

        private int weightOf(int set) {
            int sum = 0;
            for (int v = 0; v < nodes; v++) {
                sum += holds(set, v) ? weights[v] : 0;
            }
            return sum;
        }

        private int edgesWithin(int set) {
            int ends = 0;
            for (int v = 0; v < nodes; v++) {
                ends += holds(set, v) ? degree(v, set) : 0;
            }
            return ends / 2;
        }

        /** The least node of those with the fewest neighbours in the set; -1 if it is empty. */
        private int leastLinked(int set) {
            int found = -1;
            int fewest = MOST_NODES;
            for (int v = 0; v < nodes; v++) {
                if (holds(set, v) && degree(v, set) < fewest) {
                    found = v;
                    fewest = degree(v, set);
                }
            }
            return found;
        }

        private int linksOfAll(int set) {
            int union = 0;
            for (int v = 0; v < nodes; v++) {
                union |= holds(set, v) ? links[v] : 0;
            }
            return union;
        }

        /** The nodes that a walk of an even (or an odd) number of edges from v can end at. */
        private int reach(int v, boolean odd) {
            int evenEnds = 1 << v;
            int oddEnds = 0;
            // A shortest walk to an end of one kind meets each node once at even and once at odd.
            for (int step = 0; step < MOST_NODES; step++) {
                oddEnds |= linksOfAll(evenEnds);
                evenEnds |= linksOfAll(oddEnds);
            }
            return odd ? oddEnds : evenEnds;
        }

        private int parts() {
            int found = 0;
            int seen = 0;
            for (int v = 0; v < nodes; v++) {
                if (!holds(seen, v)) {
                    found++;
                    seen |= reach(v, false) | reach(v, true);
                }
            }
            return found;
        }

        /** Puts the nodes of each colour of the set into the row's place of that colour. */
        private int paint(int set, int[] row) {
            Arrays.fill(row, 0);
            int top = 0;
            for (int v = 0; v < nodes; v++) {
                if (holds(set, v)) {
                    int c = leastFree(row, links[v]);
                    row[c] |= 1 << v;
                    top = Math.max(top, c);
                }
            }
            return top;
        }

        private static int leastFree(int[] row, int linked) {
            for (int c = 1; c < row.length; c++) {
                if ((row[c] & linked) == 0) {
                    return c;
                }
            }
            return 0;
        }
    }

    /** The maximal cliques, in ORDER, of the net or of its reverse, where cliques are sets apart. */
    private static final class MaximalSets {
        /** The most maximal cliques that 16 nodes can have: 3 * 3 * 3 * 3 * 4 (Moon and Moser). */
        private static final int MOST_SETS = 324;
        /** The greatest power of two that is not above MOST_SETS. */
        private static final int WIDEST_STEP = 256;

        private final Net net;
        private final boolean reversed;
        private final int[] links = new int[MOST_NODES];
        private final int[] row = new int[MOST_SETS];
        private int size;
        private int foundAt = -1;

        private MaximalSets(Net net, boolean reversed) {
            this.net = net;
            this.reversed = reversed;
        }

        private int howMany() {
            refresh();
            return size;
        }

        private int at(int k) {
            return k >= 0 && k < size ? row[k] : BAD;
        }

        private int firstLargest() {
            refresh();
            int best = 0;
            for (int k = 0; k < size; k++) {
                if (Integer.bitCount(row[k]) > Integer.bitCount(best)) {
                    best = row[k];
                }
            }
            return best;
        }

        private int lastLargest() {
            refresh();
            int best = 0;
            for (int k = 0; k < size; k++) {
                if (Integer.bitCount(row[k]) >= Integer.bitCount(best)) {
                    best = row[k];
                }
            }
            return best;
        }

        private int firstHeaviest() {
            refresh();
            int best = 0;
            int most = 0;
            for (int k = 0; k < size; k++) {
                int heavy = net.weightOf(row[k]);
                if (heavy > most) {
                    best = row[k];
                    most = heavy;
                }
            }
            return best;
        }

        private void refresh() {
            if (foundAt == net.changes) {
                return;
            }
            foundAt = net.changes;
            size = 0;
            int all = net.allNodes();
            for (int v = 0; v < MOST_NODES; v++) {
                int linked = net.linksOf(v);
                links[v] = reversed ? all & ~linked & ~(1 << v) : linked;
            }
            gather(this, 0, all, 0, 0);
        }

        /**
         * Finds the maximal cliques that hold the set, nodes of open and none of shut (Bron and
         * Kerbosch). One without the pivot must have a node that is not joined with it, so the
         * others need no try of their own.
         */
        private static void gather(MaximalSets m, int set, int open, int shut, int depth) {
            if (open == 0 && shut == 0) {
                m.insert(set);
            }
            if (open == 0 || depth >= MOST_NODES) {
                return;
            }
            int tries = open & ~m.mostLinks(open | shut, open);
            int stillOpen = open;
            int nowShut = shut;
            for (int v = 0; v < MOST_NODES; v++) {
                if (holds(tries, v)) {
                    int linked = m.links[v];
                    gather(m, set | 1 << v, stillOpen & linked, nowShut & linked, depth + 1);
                    stillOpen &= ~(1 << v);
                    nowShut |= 1 << v;
                }
            }
        }

        /** The links of the pivot: the candidate that is joined with the most open nodes. */
        private int mostLinks(int candidates, int open) {
            int best = 0;
            for (int v = 0; v < MOST_NODES; v++) {
                if (holds(candidates, v)
                        && Integer.bitCount(links[v] & open) > Integer.bitCount(best & open)) {
                    best = links[v];
                }
            }
            return best;
        }

        private void insert(int set) {
            if (size >= MOST_SETS) {
                return;
            }
            int place = 0;
            for (int step = WIDEST_STEP; step > 0; step >>= 1) {
                if (place + step <= size && precedes(row[place + step - 1], set)) {
                    place += step;
                }
            }
            System.arraycopy(row, place, row, place + 1, size - place);
            row[place] = set;
            size++;
        }

        /** Whether a comes before b in ORDER; no maximal set is the beginning of another. */
        private static boolean precedes(int a, int b) {
            int unlike = a ^ b;
            return (a & unlike & -unlike) != 0;
        }
    }

    /** How many cliques there are of each size. */
    private static final class SizeCounts {
        private final Net net;
        private final int[] counts = new int[MOST_NODES + 1];
        private int foundAt = -1;

        private SizeCounts(Net net) {
            this.net = net;
        }

        private int ofSize(int k) {
            if (foundAt != net.changes) {
                foundAt = net.changes;
                Arrays.fill(counts, 0);
                tally(this, 0, net.allNodes(), 0);
            }
            return k >= 0 && k < counts.length ? counts[k] : BAD;
        }

        /** Counts the cliques that a clique of so many nodes makes with nodes of open. */
        private static void tally(SizeCounts s, int size, int open, int depth) {
            if (depth > MOST_NODES) {
                return;
            }
            int v = s.net.leastLinked(open);
            int others = open & ~(1 << v);
            // Going one by one through the cliques of a full net would take 65,536 steps.
            if (v < 0 || s.net.degree(v, open) == Integer.bitCount(others)) {
                s.addSubsets(size, Integer.bitCount(open));
                return;
            }
            tally(s, size, others, depth + 1);
            tally(s, size + 1, open & s.net.linksOf(v), depth + 1);
        }

        /** All nodes of open are joined with one another: each choice of them is a clique more. */
        private void addSubsets(int size, int open) {
            int ways = 1;
            for (int more = 0; more <= open && size + more <= MOST_NODES; more++) {
                counts[size + more] += ways;
                ways = ways * (open - more) / (more + 1);
            }
        }
    }

    /** The greatest set in which each node is not joined with a few others at most. */
    private static final class NearSets {
        private final Net net;
        /** By depth and j: the nodes that at least j other nodes of the set are not joined with. */
        private final int[][] lacking = new int[MOST_NODES + 1][MOST_NEAR + 1];
        private final int[] nodesByColour = new int[MOST_NODES + 1];
        private int slack;
        private int limit;
        private int best;

        private NearSets(Net net) {
            this.net = net;
        }

        private int largest(int s) {
            slack = Math.max(0, Math.min(s, MOST_NEAR) - 1);
            limit = mostOfColours();
            best = 0;
            Arrays.fill(lacking[0], 0);
            lacking[0][0] = net.allNodes();
            extend(this, 0, net.allNodes(), 0);
            return best;
        }

        /** No near set is greater: no two of a colour are joined, so it has few nodes of each. */
        private int mostOfColours() {
            int most = 0;
            int top = net.paint(net.allNodes(), nodesByColour);
            for (int c = 1; c <= top && c < nodesByColour.length; c++) {
                most += Math.min(slack + 1, Integer.bitCount(nodesByColour[c]));
            }
            return most;
        }

        /** Goes through the sets in ORDER, so that the first of a size is the one to keep. */
        private static void extend(NearSets n, int set, int open, int depth) {
            if (Integer.bitCount(set) > Integer.bitCount(n.best)) {
                n.best = set;
            }
            int stillOpen = open;
            for (int v = 0; v < MOST_NODES && depth < MOST_NODES; v++) {
                if (holds(stillOpen, v) && n.beatsBest(Integer.bitCount(set | stillOpen))) {
                    int more = set | 1 << v;
                    stillOpen &= ~(1 << v);
                    n.countLacking(v, depth);
                    int fit = n.fitting(more, stillOpen, depth + 1);
                    // All but slack of the others must be neighbours of v.
                    if (n.beatsBest(n.net.degree(v, more | fit) + 1 + n.slack)) {
                        extend(n, more, fit, depth + 1);
                    }
                }
            }
        }

        private boolean beatsBest(int size) {
            int bestSize = Integer.bitCount(best);
            return bestSize < limit && bestSize < size;
        }

        /** Fills the next depth's row for the set with v, from the row of the set without it. */
        private void countLacking(int v, int depth) {
            if (depth < 0 || depth >= MOST_NODES) {
                return;
            }
            int[] before = lacking[depth];
            int[] after = lacking[depth + 1];
            int apartFromV = ~net.linksOf(v) & ~(1 << v);
            after[0] = before[0];
            for (int j = 1; j <= MOST_NEAR; j++) {
                after[j] = before[j] | before[j - 1] & apartFromV;
            }
        }

        /** The nodes of open of which each alone can go into the set, and it stays near. */
        private int fitting(int set, int open, int depth) {
            if (depth < 0 || depth > MOST_NODES) {
                return 0;
            }
            int strained = set & lacking[depth][slack];
            int fit = open & ~lacking[depth][slack + 1];
            for (int v = 0; v < MOST_NODES && strained != 0; v++) {
                fit &= holds(strained, v) ? net.linksOf(v) : -1;
            }
            return fit;
        }
    }

    /** The order in which the nodes go, and their cores. */
    private static final class Peeling {
        private final Net net;
        private final int[] order = new int[MOST_NODES];
        private final int[] cores = new int[MOST_NODES];
        private int foundAt = -1;

        private Peeling(Net net) {
            this.net = net;
        }

        private int nodeAt(int k) {
            refresh();
            return k >= 0 && k < order.length ? order[k] : BAD;
        }

        private int coreOf(int v) {
            refresh();
            return v >= 0 && v < cores.length ? cores[v] : BAD;
        }

        private void refresh() {
            if (foundAt == net.changes) {
                return;
            }
            foundAt = net.changes;
            int left = net.allNodes();
            int most = 0;
            for (int k = 0; k < net.nodes; k++) {
                int v = net.leastLinked(left);
                if (v >= 0) {
                    most = Math.max(most, net.degree(v, left));
                    order[k] = v;
                    cores[v] = most;
                    left &= ~(1 << v);
                }
            }
        }
    }

    /** THE SEARCH, and what is told of the latest one. */
    private static final class Search {
        private final Net net;
        /** The nodes by colour, a row for each branch that can stand open at once. */
        private final int[][] painted = new int[MOST_NODES + 1][MOST_NODES + 1];
        private int work;
        private int best;
        private int lower;
        private int upper;
        private int begun;
        private int cut;
        private boolean outOfWork;

        private Search(Net net) {
            this.net = net;
        }

        private int run(int mostBranches) {
            work = mostBranches;
            best = 0;
            begun = 0;
            cut = 0;
            outOfWork = false;
            branch(this, 0, net.allNodes(), 0);
            lower = Integer.bitCount(best);
            upper = outOfWork ? net.paint(net.allNodes(), painted[0]) : lower;
            return best;
        }

        /** A branch whose clique has as many nodes as it lies deep. */
        private static void branch(Search s, int clique, int open, int depth) {
            if (s.begun >= s.work || depth > MOST_NODES) {
                s.outOfWork = true;
                return;
            }
            s.begun++;
            if (open == 0) {
                s.best = depth > Integer.bitCount(s.best) ? clique : s.best;
                return;
            }
            int[] row = s.painted[depth];
            int stillOpen = open;
            for (int c = s.net.paint(open, row); c > 0; c--) {
                for (int v = MOST_NODES - 1; v >= 0; v--) {
                    if (!holds(row[c], v)) {
                        continue;
                    }
                    if (depth + c <= Integer.bitCount(s.best)) {
                        s.cut++;
                        return;
                    }
                    branch(s, clique | 1 << v, stillOpen & s.net.linksOf(v), depth + 1);
                    if (s.outOfWork) {
                        return;
                    }
                    stillOpen &= ~(1 << v);
                }
            }
        }
    }

    /** WHAT IS SURE about covers, and what is told of the latest time that there could be one. */
    private static final class SureCover {
        private final Net net;
        private int left;
        private int takenNow;
        private int room;
        private int keptTaken;
        private int keptRoom;

        private SureCover(Net net) {
            this.net = net;
        }

        private int reduce(int k) {
            left = net.allNodes();
            takenNow = 0;
            room = k;
            boolean going = true;
            // Each step but the last takes a node away.
            for (int step = 0; step <= MOST_NODES && going && room >= 0; step++) {
                going = takeStep();
            }
            if (room < 0 || net.edgesWithin(left) > room * room) {
                return NONE;
            }
            keptTaken = takenNow;
            keptRoom = room;
            return left;
        }

        private boolean takeStep() {
            int alone = leastWithDegree(0, 0);
            if (alone >= 0) {
                left &= ~(1 << alone);
                return true;
            }
            int crowded = leastWithDegree(room + 1, MOST_NODES);
            if (crowded >= 0) {
                take(1 << crowded);
                return true;
            }
            int single = leastWithDegree(1, 1);
            if (single >= 0) {
                take(net.linksOf(single) & left);
                return true;
            }
            return false;
        }

        private int leastWithDegree(int low, int high) {
            for (int v = 0; v < MOST_NODES; v++) {
                int degree = net.degree(v, left);
                if (holds(left, v) && degree >= low && degree <= high) {
                    return v;
                }
            }
            return -1;
        }

        private void take(int oneNode) {
            takenNow |= oneNode;
            left &= ~oneNode;
            room--;
        }
    }

    /** As many pairs as can be, by ways to one pair more through blossoms (Edmonds). */
    private static final class Matching {
        private final Net net;
        private final int[] mate = new int[MOST_NODES];
        /** The node from which a way came to this one. */
        private final int[] from = new int[MOST_NODES];
        /** The node that stands for the blossom that this one is in. */
        private final int[] base = new int[MOST_NODES];
        private final int[] queue = new int[MOST_NODES];
        private int queued;
        private int inQueue;

        private Matching(Net net) {
            this.net = net;
        }

        private int size() {
            Arrays.fill(mate, -1);
            int found = 0;
            for (int v = 0; v < net.nodes; v++) {
                int end = mate[v] < 0 ? wayFrom(v) : -1;
                if (end >= 0) {
                    flip(end);
                    found++;
                }
            }
            return found;
        }

        /** Where a way from a root without a mate to another node without one ends; -1: none. */
        private int wayFrom(int root) {
            Arrays.fill(from, -1);
            for (int v = 0; v < MOST_NODES; v++) {
                base[v] = v;
            }
            queued = 0;
            inQueue = 0;
            enqueue(root);
            for (int head = 0; head < queued && head < MOST_NODES; head++) {
                int end = goOnFrom(queue[head], root);
                if (end >= 0) {
                    return end;
                }
            }
            return -1;
        }

        private int goOnFrom(int v, int root) {
            for (int to = 0; to < net.nodes; to++) {
                if (!holds(net.linksOf(v), to) || at(base, v) == base[to] || at(mate, v) == to) {
                    continue;
                }
                if (to == root || at(from, mate[to]) >= 0) {
                    closeBlossom(v, to);
                } else if (from[to] < 0) {
                    from[to] = v;
                    if (mate[to] < 0) {
                        return to;
                    }
                    enqueue(mate[to]);
                }
            }
            return -1;
        }

        private void enqueue(int v) {
            if (queued < MOST_NODES && !holds(inQueue, v)) {
                inQueue |= 1 << v;
                queue[queued] = v;
                queued++;
            }
        }

        private void closeBlossom(int a, int b) {
            int stem = meeting(a, b);
            int blossom = bendBack(a, stem, b) | bendBack(b, stem, a);
            for (int v = 0; v < net.nodes; v++) {
                if (holds(blossom, base[v])) {
                    base[v] = stem;
                    enqueue(v);
                }
            }
        }

        /** The first base that the ways back from both nodes have in common. */
        private int meeting(int a, int b) {
            int passed = 0;
            int v = at(base, a);
            for (int step = 0; step < MOST_NODES && v >= 0; step++) {
                passed |= 1 << v;
                v = at(base, at(from, at(mate, v)));
            }
            v = at(base, b);
            for (int step = 0; step < MOST_NODES && v >= 0 && !holds(passed, v); step++) {
                v = at(base, at(from, at(mate, v)));
            }
            return v;
        }

        /** Lets the way back to the stem be gone from its other end too: the bases it passes. */
        private int bendBack(int start, int stem, int other) {
            int bases = 0;
            int v = start;
            int next = other;
            for (int step = 0; step < MOST_NODES && v >= 0 && base[v] != stem; step++) {
                int partner = mate[v];
                bases |= 1 << base[v];
                bases |= partner >= 0 ? 1 << base[partner] : 0;
                from[v] = next;
                next = partner;
                v = at(from, partner);
            }
            return bases;
        }

        private void flip(int end) {
            int v = end;
            for (int step = 0; step < MOST_NODES && v >= 0 && from[v] >= 0; step++) {
                int before = from[v];
                int following = mate[before];
                mate[v] = before;
                mate[before] = v;
                v = following;
            }
        }

        private static int at(int[] row, int place) {
            return place >= 0 && place < row.length ? row[place] : -1;
        }
    }
}
