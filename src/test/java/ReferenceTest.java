import java.util.List;

/** Nets of many kinds, each changed a few times, with every call against the Reference. */
public final class ReferenceTest {
    private static final Check check = new Check("ReferenceTest");
    private static final int[] WORKS = {1, 2, 3, 4, 5, 7, 9, 12, 17, 25, 100000};
    /** Nothing is promised about an object behind so many calls. */
    private static final int MOST_CALLS = 512;

    private final Numbers numbers = new Numbers(20261115);
    private CliqueSearch x;
    private int calls;
    private Reference due;
    private String net;

    public static void main(String[] args) {
        ReferenceTest test = new ReferenceTest();
        for (int round = 0; round < 600; round++) {
            test.smallNet(round);
        }
        for (int round = 0; round < 24; round++) {
            test.fullNet(round);
        }
        for (int parts = 1; parts <= 16; parts++) {
            test.netOfParts(parts, true);
            test.netOfParts(parts, false);
        }
        for (int round = 0; round < 300; round++) {
            test.pairsAlone(round);
        }
        check.finish();
    }

    private int next(int bound) {
        return numbers.next(bound);
    }

    private void start(String name) {
        x = new CliqueSearch();
        calls = 0;
        due = new Reference();
        net = name;
    }

    private void roomFor(int more) {
        if (calls + more > MOST_CALLS) {
            renew();
        }
    }

    /** Goes on with a new object of the same net. */
    private void renew() {
        x = new CliqueSearch();
        calls = 0;
        due.forgetTold();
        for (int v = 0; v < due.nodes(); v++) {
            expect("node", v, x.node(due.weights.get(v)));
        }
        for (int a = 0; a < due.nodes(); a++) {
            for (int b = 0; b < a; b++) {
                if (due.joined[a][b]) {
                    expect("edge " + a + " " + b, 0, x.edge(a, b, true));
                }
            }
        }
    }

    private void addNodes(int n) {
        for (int i = 0; i < n; i++) {
            // Few weights, so that there are like ones.
            int weight = next(4) == 0 ? 1 + next(1000) : 1 + next(3);
            expect("node", due.nodes(), x.node(weight));
            due.weights.add(weight);
        }
    }

    private void join(int a, int b, boolean on) {
        expect("edge " + a + " " + b, due.joined[a][b] ? 1 : 0, x.edge(a, b, on));
        due.joined[a][b] = on;
        due.joined[b][a] = on;
        net = net + (on ? " +" : " -") + a + "." + b;
    }

    private void smallNet(int round) {
        start("small " + round);
        addNodes(next(9));
        int percent = 5 * next(21);
        joinAll(percent);
        everyCall();
        for (int change = 0; change < 2 && due.nodes() > 1; change++) {
            // The same object is asked ahead of the change: what it keeps must not be told later.
            renew();
            callsThatKeep();
            changeSomething();
            callsThatKeep();
        }
    }

    private void callsThatKeep() {
        cliqueCalls();
        peelingCalls();
        colourCalls(1);
        searchCalls(100000);
        sure(next(17));
        otherCalls();
    }

    private void joinAll(int percent) {
        for (int a = 0; a < due.nodes(); a++) {
            for (int b = a + 1; b < due.nodes(); b++) {
                if (next(100) < percent) {
                    boolean turned = next(2) == 0;
                    join(turned ? b : a, turned ? a : b, true);
                }
            }
        }
    }

    private void changeSomething() {
        int a = next(due.nodes());
        int b = (a + 1 + next(due.nodes() - 1)) % due.nodes();
        join(a, b, !due.joined[a][b]);
        int v = next(due.nodes());
        int weight = 1 + next(1000);
        expect("weight", due.weights.get(v), x.weight(v, weight));
        due.weights.set(v, weight);
        if (next(2) == 0 && due.nodes() < 9) {
            addNodes(1);
        }
    }

    private void fullNet(int round) {
        start("full " + round);
        addNodes(10 + next(7));
        joinAll(4 * (round + 1));
        everyCall();
    }

    /** Nodes of a part are not joined, all others are; or the other way round. */
    private void netOfParts(int parts, boolean across) {
        start("parts " + parts + " " + across);
        addNodes(16);
        for (int a = 0; a < 16; a++) {
            for (int b = 0; b < a; b++) {
                if (a % parts != b % parts == across) {
                    join(a, b, true);
                }
            }
        }
        everyCall();
    }

    /** Thin nets of many nodes: that is where ways through blossoms are needed. */
    private void pairsAlone(int round) {
        start("pairs " + round);
        addNodes(9 + next(8));
        if (round % 2 == 0) {
            joinAll(8 + next(20));
        } else {
            joinAroundRing();
        }
        expect("pairs", due.pairs(), x.pairs());
        expect("sides", due.sides(), x.sides());
        for (int k = 0; k <= 16; k++) {
            sure(k);
        }
    }

    /** An odd ring through some nodes, each other node on one before it, and some edges more. */
    private void joinAroundRing() {
        int n = due.nodes();
        int[] nodes = shuffled(n);
        int ring = 5 + 2 * next((n - 5) / 2 + 1);
        for (int i = 0; i < n; i++) {
            join(nodes[i], nodes[i < ring ? (i + 1) % ring : next(i)], true);
        }
        for (int more = next(4); more > 0; more--) {
            int a = next(n);
            join(a, (a + 1 + next(n - 1)) % n, true);
        }
    }

    /** The nodes in any order, as a ring by their numbers would always be gone through alike. */
    private int[] shuffled(int n) {
        int[] nodes = new int[n];
        for (int i = 0; i < n; i++) {
            int place = next(i + 1);
            nodes[i] = nodes[place];
            nodes[place] = i;
        }
        return nodes;
    }

    private void expect(String call, long want, long got) {
        calls++;
        if (calls > MOST_CALLS) {
            check.holds("no object is asked more than 512 times", false);
        }
        if (want != got) {
            check.due(net + ": " + call, want, got);
        } else {
            check.due("", want, got);
        }
    }

    private void everyCall() {
        roomFor(400);
        cliqueCalls();
        roomFor(100);
        peelingCalls();
        otherCalls();
        roomFor(200);
        colourCalls(6);
        roomFor(200);
        for (int work : WORKS) {
            searchCalls(work);
        }
        for (int k = 0; k <= 16; k++) {
            sure(k);
        }
    }

    private void cliqueCalls() {
        expect("greatest", due.greatest(), x.greatest());
        expect("heaviest", due.heaviest(), x.heaviest());
        expect("cover", due.cover(), x.cover());
        expect("apart", due.apart(), x.apart());
        List<Integer> maximal = due.maximal();
        expect("maximal", maximal.size(), x.maximal());
        for (int k = 0; k < maximal.size(); k++) {
            expect("maximal " + k, maximal.get(k), x.maximal(k));
        }
        expect("maximal beyond", CliqueSearch.BAD, x.maximal(maximal.size()));
        int[] cliques = due.cliques();
        for (int k = 0; k <= 16; k++) {
            expect("cliques " + k, cliques[k], x.cliques(k));
        }
        for (int s = 1; s <= 4; s++) {
            expect("near " + s, due.near(s), x.near(s));
        }
    }

    private void colourCalls(int rounds) {
        int n = due.nodes();
        for (int round = 0; round < rounds; round++) {
            int set = round == 0 ? (1 << n) - 1 : next(1 << n);
            int[] colours = due.colours(set);
            expect("colours " + set, Reference.top(colours), x.colours(set));
            for (int v = 0; v < 16; v++) {
                expect("colour " + set + " " + v,
                        colours[v] == 0 ? CliqueSearch.BAD : colours[v], x.colour(set, v));
            }
        }
    }

    private void peelingCalls() {
        int n = due.nodes();
        int[] peeling = due.peeling();
        for (int k = 0; k < n; k++) {
            expect("peeled " + k, peeling[k], x.peeled(k));
            expect("core " + k, peeling[n + k], x.core(k));
        }
    }

    private void searchCalls(int work) {
        expect("search " + work, due.search(work), x.search(work));
        for (int what = 0; what < 5; what++) {
            expect("searched " + what + " of " + work, due.told[what], x.searched(what));
        }
    }

    private void sure(int k) {
        expect("sure " + k, due.sure(k), x.sure(k));
        expect("taken 0 of " + k, due.tookTold[0], x.taken(0));
        expect("taken 1 of " + k, due.tookTold[1], x.taken(1));
    }

    private void otherCalls() {
        for (int v = 0; v < due.nodes(); v++) {
            expect("neighbours " + v, due.neighbours(v), x.neighbours(v));
        }
        expect("sides", due.sides(), x.sides());
        expect("pairs", due.pairs(), x.pairs());
        for (int what = 0; what < 4; what++) {
            expect("count " + what, due.count(what), x.count(what));
        }
    }
}
