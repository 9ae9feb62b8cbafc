import java.util.ArrayList;
import java.util.List;

/** The document's words taken at their plainest: every set of arcs is tried. For few arcs at a time. */
final class Oracle {
    private int nodes;
    private final List<int[]> arcs = new ArrayList<>();
    private List<Long> forests;

    int node() {
        forests = null;
        return nodes == 10 ? -4 : nodes++;
    }

    int arc(int from, int to, int weight) {
        if (noNode(from) || noNode(to) || from == to) {
            return -1;
        }
        if (weight < 0 || weight > 1000) {
            return -2;
        }
        if (arcs.size() == 30) {
            return -4;
        }
        forests = null;
        arcs.add(new int[] {from, to, weight});
        return arcs.size() - 1;
    }

    int change(int arc, int weight) {
        if (noArc(arc)) {
            return -1;
        }
        if (weight < 0 || weight > 1000) {
            return -2;
        }
        forests = null;
        int before = arcs.get(arc)[2];
        arcs.get(arc)[2] = weight;
        return before;
    }

    int drop(int arc) {
        if (noArc(arc)) {
            return -1;
        }
        forests = null;
        arcs.set(arc, null);
        return present().size();
    }

    int clear() {
        forests = null;
        int before = nodes;
        nodes = 0;
        arcs.clear();
        return before;
    }

    int parts() {
        int count = 0;
        for (int node = 0; node < nodes; node++) {
            if (Integer.numberOfTrailingZeros(around(all(), node)) == node) {
                count++;
            }
        }
        return count;
    }

    int least() {
        return weight(leastSet());
    }

    long leastSet() {
        return firstLightest(forests());
    }

    long ties() {
        int least = least();
        return forests().stream().filter(f -> weight(f) == least).count();
    }

    int next() {
        long least = leastSet();
        return forests().stream().filter(f -> f != least).mapToInt(this::weight).min().orElse(-3);
    }

    int swap(int what) {
        if (what != 0 && what != 1) {
            return -2;
        }
        int next = next();
        long least = leastSet();
        for (int in : present()) {
            for (int out : present()) {
                long other = least & ~(1L << out) | 1L << in;
                boolean swaps = (least >> out & 1) == 1 && (least >> in & 1) == 0;
                if (swaps && forests().contains(other) && weight(other) == next) {
                    return what == 0 ? out : in;
                }
            }
        }
        return -3;
    }

    int judge(long set) {
        if ((set & ~all()) != 0) {
            return 1;
        }
        if (hasRing(set)) {
            return 2;
        }
        if (!spans(set)) {
            return 3;
        }
        for (int in : present()) {
            for (int out : present()) {
                int[] a = arcs.get(in);
                boolean onWay = (set >> in & 1) == 0 && (set >> out & 1) == 1
                    && (around(set & ~(1L << out), a[0]) >> a[1] & 1) == 0;
                if (onWay && arcs.get(out)[2] > a[2]) {
                    return 100 + in;
                }
            }
        }
        return 0;
    }

    int height(int a, int b) {
        if (noNode(a) || noNode(b)) {
            return -1;
        }
        int best = lowestWay(a, b, 0, 0);
        return best > 1000 ? -3 : best;
    }

    private int lowestWay(int at, int goal, int visited, int height) {
        if (at == goal) {
            return height;
        }
        int best = 1001;
        for (int arc : present()) {
            int[] a = arcs.get(arc);
            int other = a[0] == at ? a[1] : a[1] == at ? a[0] : -1;
            if (other >= 0 && (visited >> other & 1) == 0) {
                best = Math.min(best, lowestWay(other, goal, visited | 1 << at, Math.max(height, a[2])));
            }
        }
        return best;
    }

    int bounded(int d) {
        long set = boundedSet(d);
        return set < 0 ? (int) set : weight(set);
    }

    long boundedSet(int d) {
        if (d < 0 || d > 9) {
            return -2;
        }
        if (nodes > 7) {
            return -4;
        }
        List<Long> fit = forests().stream().filter(f -> mostAtNode(f) <= d).toList();
        return fit.isEmpty() || parts() > 1 ? -3 : firstLightest(fit);
    }

    int rooted(int root) {
        if (noNode(root)) {
            return -1;
        }
        int[] tree = rootedTree(root);
        int sum = 0;
        for (int node = 0; tree != null && node < nodes; node++) {
            sum += node == root ? 0 : arcs.get(tree[node])[2];
        }
        return tree == null ? -3 : sum;
    }

    int rootedArc(int root, int node) {
        if (noNode(root) || noNode(node)) {
            return -1;
        }
        int[] tree = rootedTree(root);
        return tree == null || node == root ? -3 : tree[node];
    }

    int unreached(int root) {
        return noNode(root) ? -1 : (1 << nodes) - 1 & ~along(all(), root);
    }

    int joined(int ends) {
        long set = joinedSet(ends);
        return set < 0 ? (int) set : weight(set);
    }

    long joinedSet(int ends) {
        if (ends == 0 || (ends & ~((1 << nodes) - 1)) != 0) {
            return -2;
        }
        long best = -3;
        int start = Integer.numberOfTrailingZeros(ends);
        for (long set : sets()) {
            if ((around(set, start) & ends) == ends && (best < 0 || better(set, best))) {
                best = set;
            }
        }
        return best;
    }

    private boolean better(long a, long b) {
        if (weight(a) != weight(b)) {
            return weight(a) < weight(b);
        }
        return Long.bitCount(a) != Long.bitCount(b) ? Long.bitCount(a) < Long.bitCount(b) : isFirst(a, b);
    }

    private static boolean isFirst(long a, long b) {
        return a != b && (a >> Long.numberOfTrailingZeros(a ^ b) & 1) == 1;
    }

    private long firstLightest(List<Long> some) {
        long best = some.get(0);
        for (long set : some) {
            boolean lighter = weight(set) < weight(best);
            if (lighter || weight(set) == weight(best) && isFirst(set, best)) {
                best = set;
            }
        }
        return best;
    }

    /** The arcs to each node in the order of their numbers: so the first of the lightest comes first. */
    private int[] rootedTree(int root) {
        int[] tree = new int[nodes];
        int[][] best = {null, {Integer.MAX_VALUE}};
        tryArcs(root, 0, 0, tree, best);
        return best[0];
    }

    private void tryArcs(int root, int node, int sum, int[] tree, int[][] best) {
        if (node == nodes) {
            long set = 0;
            for (int v = 0; v < nodes; v++) {
                set |= v == root ? 0 : 1L << tree[v];
            }
            if (sum < best[1][0] && along(set, root) == (1 << nodes) - 1) {
                best[0] = tree.clone();
                best[1][0] = sum;
            }
        } else if (node == root) {
            tryArcs(root, node + 1, sum, tree, best);
        } else {
            for (int arc : present()) {
                if (arcs.get(arc)[1] == node) {
                    tree[node] = arc;
                    tryArcs(root, node + 1, sum + arcs.get(arc)[2], tree, best);
                }
            }
        }
    }

    private int mostAtNode(long set) {
        int[] count = new int[10];
        int most = 0;
        for (int arc : members(set)) {
            most = Math.max(most, ++count[arcs.get(arc)[0]]);
            most = Math.max(most, ++count[arcs.get(arc)[1]]);
        }
        return most;
    }

    private List<Long> forests() {
        if (forests == null) {
            forests = sets().stream().filter(s -> !hasRing(s) && spans(s)).toList();
        }
        return forests;
    }

    /** A set has a ring if one of its arcs could go and its nodes would still hang together. */
    private boolean hasRing(long set) {
        for (int arc : members(set)) {
            int[] a = arcs.get(arc);
            if ((around(set & ~(1L << arc), a[0]) >> a[1] & 1) == 1) {
                return true;
            }
        }
        return false;
    }

    private boolean spans(long set) {
        for (int node = 0; node < nodes; node++) {
            if (around(set, node) != around(all(), node)) {
                return false;
            }
        }
        return true;
    }

    private int around(long set, int node) {
        int reached = 1 << node;
        for (int before = 0; before != reached;) {
            before = reached;
            for (int arc : members(set)) {
                int ends = 1 << arcs.get(arc)[0] | 1 << arcs.get(arc)[1];
                reached |= (reached & ends) != 0 ? ends : 0;
            }
        }
        return reached;
    }

    private int along(long set, int root) {
        int reached = 1 << root;
        for (int before = 0; before != reached;) {
            before = reached;
            for (int arc : members(set)) {
                reached |= (reached >> arcs.get(arc)[0] & 1) << arcs.get(arc)[1];
            }
        }
        return reached;
    }

    private int weight(long set) {
        int sum = 0;
        for (int arc : members(set)) {
            sum += arcs.get(arc)[2];
        }
        return sum;
    }

    private static int[] members(long set) {
        int[] found = new int[Long.bitCount(set)];
        int count = 0;
        for (long rest = set; rest != 0; rest &= rest - 1) {
            found[count++] = Long.numberOfTrailingZeros(rest);
        }
        return found;
    }

    private List<Long> sets() {
        List<Long> found = new ArrayList<>();
        long all = all();
        long set = 0;
        do {
            found.add(set);
            set = set - all & all;
        } while (set != 0);
        return found;
    }

    List<Integer> present() {
        List<Integer> found = new ArrayList<>();
        for (int arc = 0; arc < arcs.size(); arc++) {
            if (arcs.get(arc) != null) {
                found.add(arc);
            }
        }
        return found;
    }

    int nodes() {
        return nodes;
    }

    int numbered() {
        return arcs.size();
    }

    long all() {
        long set = 0;
        for (int arc : present()) {
            set |= 1L << arc;
        }
        return set;
    }

    private boolean noNode(int node) {
        return node < 0 || node >= nodes;
    }

    private boolean noArc(int arc) {
        return arc < 0 || arc >= arcs.size() || arcs.get(arc) == null;
    }
}
