import java.util.ArrayList;
import java.util.Arrays;
import java.util.List;
import java.util.TreeSet;
import java.util.stream.IntStream;

/**
 * Answers by the document's words alone: it looks at every set there is, or goes step by step as
 * the document tells, with no thought of time.
 */
final class Reference {
    private static final int[][] ROWS = new int[1 << 16][];

    final List<Integer> weights = new ArrayList<>();
    final boolean[][] joined = new boolean[16][16];
    final int[] told = new int[5];
    final int[] tookTold = new int[2];

    private List<Integer> best;
    private int workLeft;

    int nodes() {
        return weights.size();
    }

    // ---- sets, as rows of rising numbers

    private static int[] row(int set) {
        if (ROWS[set] == null) {
            ROWS[set] = IntStream.range(0, 16).filter(v -> (set >> v & 1) == 1).toArray();
        }
        return ROWS[set];
    }

    private static int set(Iterable<Integer> row) {
        int set = 0;
        for (int v : row) {
            set |= 1 << v;
        }
        return set;
    }

    /** Arrays.compare puts the shorter row first if it is the beginning of the other. */
    private static boolean before(int a, int b) {
        return Arrays.compare(row(a), row(b)) < 0;
    }

    private int allSets() {
        return 1 << nodes();
    }

    // ---- cliques

    private boolean isClique(int set) {
        for (int a : row(set)) {
            for (int b : row(set)) {
                if (a != b && !joined[a][b]) {
                    return false;
                }
            }
        }
        return true;
    }

    private boolean isApart(int set) {
        for (int a : row(set)) {
            for (int b : row(set)) {
                if (joined[a][b]) {
                    return false;
                }
            }
        }
        return true;
    }

    private boolean isCover(int set) {
        for (int a = 0; a < nodes(); a++) {
            for (int b = 0; b < nodes(); b++) {
                if (joined[a][b] && (set >> a & 1) == 0 && (set >> b & 1) == 0) {
                    return false;
                }
            }
        }
        return true;
    }

    private boolean isNear(int set, int s) {
        for (int a : row(set)) {
            int notJoined = 0;
            for (int b : row(set)) {
                notJoined += a != b && !joined[a][b] ? 1 : 0;
            }
            if (notJoined > s - 1) {
                return false;
            }
        }
        return true;
    }

    private boolean isMaximal(int set) {
        for (int v = 0; v < nodes(); v++) {
            if ((set >> v & 1) == 0 && isClique(set | 1 << v)) {
                return false;
            }
        }
        return isClique(set);
    }

    private int weightOf(int set) {
        int sum = 0;
        for (int v : row(set)) {
            sum += weights.get(v);
        }
        return sum;
    }

    int greatest() {
        int found = 0;
        for (int set = 0; set < allSets(); set++) {
            if (isClique(set)) {
                found = better(Integer.bitCount(set), set, Integer.bitCount(found), found);
            }
        }
        return found;
    }

    int heaviest() {
        int found = 0;
        for (int set = 0; set < allSets(); set++) {
            if (isClique(set)) {
                found = better(weightOf(set), set, weightOf(found), found);
            }
        }
        return found;
    }

    int apart() {
        int found = 0;
        for (int set = 0; set < allSets(); set++) {
            if (isApart(set)) {
                found = better(Integer.bitCount(set), set, Integer.bitCount(found), found);
            }
        }
        return found;
    }

    int cover() {
        int found = allSets() - 1;
        for (int set = 0; set < allSets(); set++) {
            if (isCover(set)) {
                found = better(-Integer.bitCount(set), set, -Integer.bitCount(found), found);
            }
        }
        return found;
    }

    int near(int s) {
        int found = 0;
        for (int set = 0; set < allSets(); set++) {
            if (isNear(set, s)) {
                found = better(Integer.bitCount(set), set, Integer.bitCount(found), found);
            }
        }
        return found;
    }

    private static int better(int worth, int set, int worthOfFound, int found) {
        boolean takes = worth > worthOfFound || worth == worthOfFound && before(set, found);
        return takes ? set : found;
    }

    List<Integer> maximal() {
        List<Integer> found = new ArrayList<>();
        for (int set = 0; set < allSets(); set++) {
            if (isMaximal(set)) {
                found.add(set);
            }
        }
        found.sort((a, b) -> Arrays.compare(row(a), row(b)));
        return found;
    }

    int[] cliques() {
        int[] counts = new int[17];
        for (int set = 0; set < allSets(); set++) {
            counts[Integer.bitCount(set)] += isClique(set) ? 1 : 0;
        }
        return counts;
    }

    // ---- colours, peeling

    /** The colour of each node of the set, 0 for the others. */
    int[] colours(int set) {
        int[] colours = new int[16];
        for (int v : row(set)) {
            TreeSet<Integer> met = new TreeSet<>();
            for (int u : row(set)) {
                if (joined[v][u]) {
                    met.add(colours[u]);
                }
            }
            colours[v] = 1;
            while (met.contains(colours[v])) {
                colours[v]++;
            }
        }
        return colours;
    }

    static int top(int[] colours) {
        return Arrays.stream(colours).max().getAsInt();
    }

    /** The nodes as they go, and behind them the core of each node by its number. */
    int[] peeling() {
        int n = nodes();
        int[] found = new int[2 * n];
        TreeSet<Integer> there = new TreeSet<>();
        for (int v = 0; v < n; v++) {
            there.add(v);
        }
        int most = 0;
        for (int k = 0; k < n; k++) {
            int goes = there.first();
            for (int v : there) {
                goes = among(v, there) < among(goes, there) ? v : goes;
            }
            most = Math.max(most, among(goes, there));
            found[k] = goes;
            found[n + goes] = most;
            there.remove(goes);
        }
        return found;
    }

    private int among(int v, Iterable<Integer> others) {
        int neighbours = 0;
        for (int u : others) {
            neighbours += joined[v][u] ? 1 : 0;
        }
        return neighbours;
    }

    // ---- the search

    void forgetTold() {
        Arrays.fill(told, 0);
        Arrays.fill(tookTold, 0);
    }

    int search(int work) {
        best = new ArrayList<>();
        workLeft = work;
        Arrays.fill(told, 0);
        List<Integer> all = new ArrayList<>();
        for (int v = 0; v < nodes(); v++) {
            all.add(v);
        }
        boolean ended = !branch(new ArrayList<>(), new ArrayList<>(all));
        told[0] = best.size();
        told[1] = ended ? top(colours(set(all))) : best.size();
        told[4] = ended ? 1 : 0;
        return set(best);
    }

    /** Whether the search goes on behind this branch. */
    private boolean branch(List<Integer> c, List<Integer> p) {
        if (workLeft == 0) {
            return false;
        }
        workLeft--;
        told[2]++;
        if (p.isEmpty()) {
            best = c.size() > best.size() ? c : best;
            return true;
        }
        int[] colours = colours(set(p));
        List<Integer> order = new ArrayList<>(p);
        order.sort((a, b) -> colours[a] != colours[b] ? colours[b] - colours[a] : b - a);
        for (int v : order) {
            if (c.size() + colours[v] <= best.size()) {
                told[3] += p.isEmpty() ? 0 : 1;
                return true;
            }
            List<Integer> more = new ArrayList<>(c);
            more.add(v);
            List<Integer> fewer = new ArrayList<>(p);
            fewer.removeIf(u -> !joined[v][u]);
            if (!branch(more, fewer)) {
                return false;
            }
            p.remove(Integer.valueOf(v));
        }
        return true;
    }

    // ---- covers, sides, pairs

    int sure(int limit) {
        TreeSet<Integer> left = new TreeSet<>();
        for (int v = 0; v < nodes(); v++) {
            left.add(v);
        }
        TreeSet<Integer> took = new TreeSet<>();
        int k = limit;
        while (k >= 0) {
            int[] step = ruleThatHolds(left, k);
            if (step == null) {
                break;
            }
            left.remove(step[1]);
            if (step[0] > 1) {
                took.add(step[1]);
                k--;
            }
        }
        int ends = 0;
        for (int v : left) {
            ends += among(v, left);
        }
        if (k < 0 || ends > 2 * k * k) {
            return CliqueSearch.NONE;
        }
        tookTold[0] = set(took);
        tookTold[1] = k;
        return set(left);
    }

    /** The number of the rule and the node that it takes away; null if none holds. */
    private int[] ruleThatHolds(TreeSet<Integer> left, int k) {
        for (int v : left) {
            if (among(v, left) == 0) {
                return new int[] {1, v};
            }
        }
        for (int v : left) {
            if (among(v, left) > k) {
                return new int[] {2, v};
            }
        }
        for (int v : left) {
            for (int u : left) {
                if (among(v, left) == 1 && joined[v][u]) {
                    return new int[] {3, u};
                }
            }
        }
        return null;
    }

    int sides() {
        int[] part = parts();
        for (int set = 0; set < allSets(); set++) {
            if (areSides(set, part)) {
                return set;
            }
        }
        return CliqueSearch.NONE;
    }

    private boolean areSides(int set, int[] part) {
        for (int a = 0; a < nodes(); a++) {
            if (part[a] == a && (set >> a & 1) == 1) {
                return false;
            }
            for (int b = 0; b < nodes(); b++) {
                if (joined[a][b] && (set >> a & 1) == (set >> b & 1)) {
                    return false;
                }
            }
        }
        return true;
    }

    /** The least node of the part that each node is in. */
    private int[] parts() {
        int[] least = new int[nodes()];
        for (int v = 0; v < nodes(); v++) {
            least[v] = v;
        }
        for (int round = 0; round < nodes(); round++) {
            for (int a = 0; a < nodes(); a++) {
                for (int b = 0; b < nodes(); b++) {
                    least[a] = joined[a][b] ? Math.min(least[a], least[b]) : least[a];
                }
            }
        }
        return least;
    }

    /** By how many pairs each set of nodes can have at most, from the lesser sets up. */
    int pairs() {
        int[] most = new int[allSets()];
        for (int set = 1; set < allSets(); set++) {
            int v = row(set)[0];
            most[set] = most[set & ~(1 << v)];
            for (int u : row(set)) {
                if (joined[v][u]) {
                    most[set] = Math.max(most[set], 1 + most[set & ~(1 << v) & ~(1 << u)]);
                }
            }
        }
        return most[allSets() - 1];
    }

    int count(int what) {
        int found = 0;
        int[] part = parts();
        for (int a = 0; a < nodes(); a++) {
            for (int b = 0; b < a; b++) {
                found += what == 1 && joined[a][b] ? 1 : 0;
            }
            found += what == 0 || what == 3 && part[a] == a ? 1 : 0;
            found += what == 2 ? weights.get(a) : 0;
        }
        return found;
    }

    int neighbours(int v) {
        int set = 0;
        for (int u = 0; u < nodes(); u++) {
            set |= joined[v][u] ? 1 << u : 0;
        }
        return set;
    }
}
