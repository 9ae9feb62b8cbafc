import java.math.BigInteger;
import java.util.Arrays;
import java.util.HashMap;
import java.util.Map;
import java.util.Random;

/** Promises 8 to 21 on graphs with as many nodes and arcs as there may be, by other ways of reckoning. */
public final class FullGraphsTest {
    private static final Check check = new Check();

    private final Random random;
    private final int nodes;
    private final int[] from = new int[30];
    private final int[] to = new int[30];
    private final int[] weight = new int[30];
    private final RootedTrees x = new RootedTrees();

    private FullGraphsTest(int seed, int nodes) {
        random = new Random(seed);
        this.nodes = nodes;
        int mostWeight = new int[] {0, 1, 3, 10, 1000}[seed % 5];
        for (int i = 0; i < nodes; i++) {
            x.node();
        }
        for (int k = 0; k < 30; k++) {
            from[k] = k < nodes - 1 ? k : random.nextInt(nodes);
            to[k] = k < nodes - 1 ? k + 1 : (from[k] + 1 + random.nextInt(nodes - 1)) % nodes;
            weight[k] = random.nextInt(mostWeight + 1);
            check.due("arc", x.arc(from[k], to[k], weight[k]), k);
        }
    }

    public static void main(String[] args) {
        for (int seed = 0; seed < 60; seed++) {
            FullGraphsTest large = new FullGraphsTest(seed, 10);
            large.least();
            large.next();
            large.rooted();
            large.joined();
            if (seed < 15) {
                large.ties();
            }
            new FullGraphsTest(seed, 7).bounded();
        }
        check.end("FullGraphsTest");
    }

    /** Takes away arcs, the heaviest and last first, as long as all nodes hang together. */
    private long leastByTakingAway() {
        long set = (1L << 30) - 1;
        for (int w = 1000; w >= 0; w--) {
            for (int k = 29; k >= 0; k--) {
                if (weight[k] == w && hangs(set & ~(1L << k))) {
                    set &= ~(1L << k);
                }
            }
        }
        return set;
    }

    private boolean hangs(long set) {
        return around(set, 0) == (1 << nodes) - 1;
    }

    private int around(long set, int node) {
        int reached = 1 << node;
        for (int round = 0; round < nodes; round++) {
            for (int k = 0; k < 30; k++) {
                int ends = 1 << from[k] | 1 << to[k];
                reached |= (set >> k & 1) == 1 && (reached & ends) != 0 ? ends : 0;
            }
        }
        return reached;
    }

    private int sum(long set) {
        int sum = 0;
        for (int k = 0; k < 30; k++) {
            sum += (set >> k & 1) == 1 ? weight[k] : 0;
        }
        return sum;
    }

    private void least() {
        long set = leastByTakingAway();
        check.due("leastSet", x.leastSet(), set);
        check.due("least", x.least(), sum(set));
        check.due("judge", x.judge(set), 0);
    }

    private void next() {
        long set = leastByTakingAway();
        int best = Integer.MAX_VALUE;
        int bestIn = -1;
        int bestOut = -1;
        for (int in = 0; in < 30; in++) {
            for (int out = 0; out < 30; out++) {
                boolean swaps = (set >> in & 1) == 0 && (set >> out & 1) == 1;
                long other = set & ~(1L << out) | 1L << in;
                if (swaps && sum(other) < best && hangs(other)) {
                    best = sum(other);
                    bestIn = in;
                    bestOut = out;
                }
            }
        }
        check.due("next", x.next(), best);
        check.due("in", x.swap(1), bestIn);
        check.due("out", x.swap(0), bestOut);
        check.due("judge", x.judge(set & ~(1L << bestOut) | 1L << bestIn), best == sum(set) ? 0 : 100 + bestOut);
        check.due("ties", x.ties() > 1 ? 1 : 0, best == sum(set) ? 1 : 0);
    }

    /** For each way in which nodes may hang together: the least weight of forests for it, and how many have it. */
    private void ties() {
        Map<String, long[]> known = new HashMap<>();
        known.put("0123456789", new long[] {0, 1});
        for (int k = 0; k < 30; k++) {
            Map<String, long[]> more = new HashMap<>();
            for (Map.Entry<String, long[]> entry : known.entrySet()) {
                String apart = entry.getKey();
                long[] value = entry.getValue();
                add(more, apart, value[0], value[1]);
                char a = apart.charAt(from[k]);
                char b = apart.charAt(to[k]);
                if (a != b) {
                    String together = apart.replace(a > b ? a : b, a > b ? b : a);
                    add(more, together, value[0] + weight[k], value[1]);
                }
            }
            known = more;
        }
        check.due("least", x.least(), known.get("0000000000")[0]);
        check.due("ties", x.ties(), known.get("0000000000")[1]);
    }

    private static void add(Map<String, long[]> all, String key, long least, long count) {
        long[] value = all.computeIfAbsent(key, k -> new long[] {least, 0});
        if (least < value[0]) {
            value[0] = least;
            value[1] = 0;
        }
        if (least == value[0]) {
            value[1] += count;
        }
    }

    private void rooted() {
        for (int root = 0; root < nodes; root += 3) {
            int[] tree = new int[nodes];
            int[] best = new int[nodes + 1];
            best[nodes] = Integer.MAX_VALUE;
            tryArcs(root, 0, 0, tree, best);
            boolean none = best[nodes] == Integer.MAX_VALUE;
            check.due("rooted", x.rooted(root), none ? -3 : best[nodes]);
            for (int node = 0; node < nodes; node++) {
                check.due("rootedArc", x.rootedArc(root, node), none || node == root ? -3 : best[node]);
            }
        }
    }

    private void tryArcs(int root, int node, int sum, int[] tree, int[] best) {
        if (sum >= best[nodes]) {
            return;
        }
        if (node == nodes) {
            if (leadsEverywhere(root, tree)) {
                System.arraycopy(tree, 0, best, 0, nodes);
                best[nodes] = sum;
            }
        } else if (node == root) {
            tryArcs(root, node + 1, sum, tree, best);
        } else {
            for (int k = 0; k < 30; k++) {
                if (to[k] == node) {
                    tree[node] = k;
                    tryArcs(root, node + 1, sum + weight[k], tree, best);
                }
            }
        }
    }

    private boolean leadsEverywhere(int root, int[] tree) {
        for (int node = 0; node < nodes; node++) {
            int at = node;
            for (int step = 0; step < nodes && at != root; step++) {
                at = from[tree[at]];
            }
            if (at != root) {
                return false;
            }
        }
        return true;
    }

    /** Weight, number of arcs, then the arcs, the least uppermost, in one number. */
    private BigInteger cost(int k) {
        BigInteger top = BigInteger.valueOf(weight[k]).shiftLeft(64).add(BigInteger.ONE.shiftLeft(48));
        return top.subtract(BigInteger.ONE.shiftLeft(40 - k));
    }

    private long setOf(BigInteger cost) {
        long low = cost.negate().mod(BigInteger.ONE.shiftLeft(48)).longValue();
        long set = 0;
        for (int k = 0; k < 30; k++) {
            set |= (low >> (40 - k) & 1) << k;
        }
        return set;
    }

    /** Trees over sets of nodes, each by joining two at a node or by going on over an arc. */
    private void joined() {
        BigInteger[][] best = new BigInteger[1 << nodes][nodes];
        BigInteger far = BigInteger.ONE.shiftLeft(100);
        for (int ends = 1; ends < 1 << nodes; ends++) {
            for (int node = 0; node < nodes; node++) {
                BigInteger least = ends == 1 << node ? BigInteger.ZERO : far;
                for (int some = (ends - 1) & ends; some > 0; some = (some - 1) & ends) {
                    least = least.min(best[some][node].add(best[ends & ~some][node]));
                }
                best[ends][node] = least;
            }
            for (int round = 0; round < nodes; round++) {
                for (int k = 0; k < 30; k++) {
                    best[ends][from[k]] = best[ends][from[k]].min(best[ends][to[k]].add(cost(k)));
                    best[ends][to[k]] = best[ends][to[k]].min(best[ends][from[k]].add(cost(k)));
                }
            }
        }
        for (int i = 0; i < 120; i++) {
            int ends = i < 20 ? 1 << i % 10 | 1 << random.nextInt(10) : 1 + random.nextInt((1 << nodes) - 1);
            long set = setOf(best[ends][Integer.numberOfTrailingZeros(ends)]);
            check.due("joinedSet " + ends, x.joinedSet(ends), set);
            check.due("joined " + ends, x.joined(ends), sum(set));
        }
    }

    /** Every tree of 7 nodes has a code of 5 of them, in which a node stands once less than it has arcs. */
    private void bounded() {
        long[] best = new long[10];
        Arrays.fill(best, -3);
        for (int code = 0; code < 16807; code++) {
            int most = 0;
            int[] degree = {1, 1, 1, 1, 1, 1, 1};
            for (int rest = code, i = 0; i < 5; i++, rest /= 7) {
                degree[rest % 7]++;
            }
            for (int d : degree) {
                most = Math.max(most, d);
            }
            long set = treeOf(code, degree);
            for (int d = most; set >= 0 && d < 10; d++) {
                if (best[d] < 0 || isBetter(set, best[d])) {
                    best[d] = set;
                }
            }
        }
        for (int d = 0; d < 10; d++) {
            check.due("boundedSet " + d, x.boundedSet(d), best[d]);
            check.due("bounded " + d, x.bounded(d), best[d] < 0 ? -3 : sum(best[d]));
        }
    }

    private long treeOf(int code, int[] degree) {
        long set = 0;
        int done = 0;
        for (int rest = code, i = 0; i < 5; i++, rest /= 7) {
            int leaf = 0;
            while (degree[leaf] != 1 || (done >> leaf & 1) == 1) {
                leaf++;
            }
            int arc = lightest(leaf, rest % 7);
            set = arc < 0 || set < 0 ? -1 : set | 1L << arc;
            degree[rest % 7]--;
            done |= 1 << leaf;
        }
        int left = 127 & ~done;
        int arc = lightest(Integer.numberOfTrailingZeros(left), Integer.numberOfTrailingZeros(left & left - 1));
        return arc < 0 || set < 0 ? -1 : set | 1L << arc;
    }

    private int lightest(int a, int b) {
        int best = -1;
        for (int k = 0; k < 30; k++) {
            boolean between = (1 << from[k] | 1 << to[k]) == (1 << a | 1 << b);
            if (between && (best < 0 || weight[k] < weight[best])) {
                best = k;
            }
        }
        return best;
    }

    private boolean isBetter(long a, long b) {
        if (sum(a) != sum(b)) {
            return sum(a) < sum(b);
        }
        return a != b && (a >> Long.numberOfTrailingZeros(a ^ b) & 1) == 1;
    }
}
