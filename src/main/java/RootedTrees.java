import java.util.Arrays;

/**
 * Least trees in graphs: that of all nodes and the next one to it, how many are as light, what beats
 * a set told; ways whose heaviest arc is least; trees with few arcs at each node; trees away from a
 * root; trees for some ends; each the first of several.
 */
public final class RootedTrees {
    private static final int MOST_NODES = 10;
    private static final int MOST_ARCS = 30;
    private static final int MOST_WEIGHT = 1000;
    private static final int MOST_BOUND = 9;
    private static final int MOST_BOUNDED_NODES = 7;

    private static final int NO_SUCH = -1;
    private static final int OUTSIDE = -2;
    private static final int THERE_IS_NONE = -3;
    private static final int NO_ROOM = -4;

    /** Above every true cost, and so low that three of them still make no overflow. */
    private static final long NO_COST = 1L << 60;

    private final Graph graph;
    private final Forests forests;
    private final BoundedTrees boundedTrees;
    private final TreesFromRoot treesFromRoot;
    private final JoiningTrees joiningTrees;

    public RootedTrees() {
        graph = new Graph();
        forests = new Forests(graph);
        boundedTrees = new BoundedTrees(graph);
        treesFromRoot = new TreesFromRoot(graph);
        joiningTrees = new JoiningTrees(graph);
    }

    public int node() {
        if (graph.nodes >= MOST_NODES) {
            return NO_ROOM;
        }
        return graph.addNode();
    }

    public int arc(int from, int to, int weight) {
        if (!graph.hasNode(from) || !graph.hasNode(to) || from == to) {
            return NO_SUCH;
        }
        if (!isWeight(weight)) {
            return OUTSIDE;
        }
        if (graph.numbered >= MOST_ARCS) {
            return NO_ROOM;
        }
        return graph.addArc(from, to, weight);
    }

    public int change(int arc, int weight) {
        if (!graph.hasArc(arc)) {
            return NO_SUCH;
        }
        if (!isWeight(weight)) {
            return OUTSIDE;
        }
        return graph.reweigh(arc, weight);
    }

    public int drop(int arc) {
        if (!graph.hasArc(arc)) {
            return NO_SUCH;
        }
        return graph.removeArc(arc);
    }

    public int clear() {
        int before = graph.nodes;
        graph.empty();
        return before;
    }

    // ---- forests

    public int parts() {
        return forests.countParts();
    }

    public int least() {
        return graph.weightOf(forests.findLeast());
    }

    public long leastSet() {
        return forests.findLeast();
    }

    public long ties() {
        return forests.countLeast();
    }

    public int next() {
        return forests.findNext() ? forests.nextWeight : THERE_IS_NONE;
    }

    public int swap(int what) {
        if (what != 0 && what != 1) {
            return OUTSIDE;
        }
        if (!forests.findNext()) {
            return THERE_IS_NONE;
        }
        return what == 0 ? forests.nextOut : forests.nextIn;
    }

    public int judge(long set) {
        return forests.verdict(set);
    }

    public int height(int a, int b) {
        if (!graph.hasNode(a) || !graph.hasNode(b)) {
            return NO_SUCH;
        }
        return forests.leastHeight(a, b);
    }

    public int bounded(int d) {
        long cost = boundedCost(d);
        return cost < 0 ? (int) cost : Cost.weightIn(cost);
    }

    public long boundedSet(int d) {
        long cost = boundedCost(d);
        return cost < 0 ? cost : Cost.setIn(cost);
    }

    // ---- rooted

    public int rooted(int root) {
        if (!graph.hasNode(root)) {
            return NO_SUCH;
        }
        long cost = treesFromRoot.leastCost(root);
        return cost >= NO_COST ? THERE_IS_NONE : TreesFromRoot.weightIn(cost);
    }

    public int rootedArc(int root, int node) {
        if (!graph.hasNode(root) || !graph.hasNode(node)) {
            return NO_SUCH;
        }
        if (node == root) {
            return THERE_IS_NONE;
        }
        long cost = treesFromRoot.leastCost(root);
        return cost >= NO_COST ? THERE_IS_NONE : TreesFromRoot.arcIn(cost, root, node);
    }

    public int unreached(int root) {
        if (!graph.hasNode(root)) {
            return NO_SUCH;
        }
        return treesFromRoot.outOfReach(root);
    }

    // ---- joined

    public int joined(int ends) {
        long cost = joinedCost(ends);
        return cost < 0 ? (int) cost : Cost.weightIn(cost);
    }

    public long joinedSet(int ends) {
        long cost = joinedCost(ends);
        return cost < 0 ? cost : Cost.setIn(cost);
    }

    private static boolean isWeight(int weight) {
        return weight >= 0 && weight <= MOST_WEIGHT;
    }

    /** True costs are never below 0, so that a refusal can stand in the place of one. */
    private long boundedCost(int d) {
        if (d < 0 || d > MOST_BOUND) {
            return OUTSIDE;
        }
        if (graph.nodes > MOST_BOUNDED_NODES) {
            return NO_ROOM;
        }
        long cost = boundedTrees.leastCost(d);
        return cost >= NO_COST ? THERE_IS_NONE : cost;
    }

    private long joinedCost(int ends) {
        if (ends <= 0 || ends > graph.allNodes()) {
            return OUTSIDE;
        }
        long cost = joiningTrees.leastCost(ends);
        return cost >= NO_COST ? THERE_IS_NONE : cost;
    }

    /** The nodes and arcs. Its callers have looked at what they hand over. */
    private static final class Graph {
        final int[] from = new int[MOST_ARCS];
        final int[] to = new int[MOST_ARCS];
        final int[] weight = new int[MOST_ARCS];
        /** The arcs that there are, by weight, those alike by number: so every search may be greedy. */
        final int[] order = new int[MOST_ARCS];
        int nodes;
        int numbered;
        int size;
        long present;

        int addNode() {
            nodes++;
            return nodes - 1;
        }

        int addArc(int tail, int head, int heft) {
            int arc = numbered;
            numbered++;
            from[arc] = tail;
            to[arc] = head;
            weight[arc] = heft;
            present |= 1L << arc;
            putInOrder(arc);
            return arc;
        }

        int reweigh(int arc, int heft) {
            int before = weight[arc];
            takeOutOfOrder(arc);
            weight[arc] = heft;
            putInOrder(arc);
            return before;
        }

        int removeArc(int arc) {
            takeOutOfOrder(arc);
            present &= ~(1L << arc);
            return size;
        }

        void empty() {
            nodes = 0;
            numbered = 0;
            size = 0;
            present = 0;
        }

        boolean hasNode(int node) {
            return node >= 0 && node < nodes;
        }

        boolean hasArc(int arc) {
            return arc >= 0 && arc < numbered && isIn(present, arc);
        }

        int allNodes() {
            return (1 << nodes) - 1;
        }

        int weightOf(long set) {
            int sum = 0;
            for (int arc = 0; arc < numbered; arc++) {
                if (isIn(set, arc)) {
                    sum += weight[arc];
                }
            }
            return sum;
        }

        static boolean isIn(long set, int arc) {
            return (set >> arc & 1) != 0;
        }

        private boolean isAhead(int arc, int other) {
            return weight[arc] < weight[other] || weight[arc] == weight[other] && arc < other;
        }

        private void putInOrder(int arc) {
            int place = size;
            while (place > 0 && isAhead(arc, order[place - 1])) {
                order[place] = order[place - 1];
                place--;
            }
            order[place] = arc;
            size++;
        }

        private void takeOutOfOrder(int arc) {
            int kept = 0;
            for (int i = 0; i < size; i++) {
                if (order[i] != arc) {
                    order[kept] = order[i];
                    kept++;
                }
            }
            size = kept;
        }
    }

    /** Which nodes hang together: those with the same label, which is the least node among them. */
    private static final class Labels {
        final int[] label = new int[MOST_NODES];
        int nodes;
        int groups;

        void separate(int many) {
            nodes = many;
            groups = many;
            for (int node = 0; node < many; node++) {
                label[node] = node;
            }
        }

        boolean areApart(int a, int b) {
            return label[a] != label[b];
        }

        /** Answers whether they were apart. */
        boolean unite(int a, int b) {
            int low = Math.min(label[a], label[b]);
            int high = Math.max(label[a], label[b]);
            if (low == high) {
                return false;
            }
            for (int node = 0; node < nodes; node++) {
                if (label[node] == high) {
                    label[node] = low;
                }
            }
            groups--;
            return true;
        }
    }

    /**
     * One number for a set of arcs, the sum of those of its arcs, that is the lower the lighter the
     * set is, then the fewer arcs it has, then the more it is first: the greatest bit by which two
     * sets differ in the lowest part stands for the least arc, and counts downwards.
     */
    private static final class Cost {
        private static final int COUNT_BITS = 5;

        static long of(int weight, int arc) {
            long weightAndCount = ((long) weight << COUNT_BITS) + 1;
            return (weightAndCount << MOST_ARCS) - (1L << (MOST_ARCS - 1 - arc));
        }

        static int weightIn(long cost) {
            return (int) ((cost + mirrored(cost)) >> (MOST_ARCS + COUNT_BITS));
        }

        static long setIn(long cost) {
            long mirrored = mirrored(cost);
            long set = 0;
            for (int arc = 0; arc < MOST_ARCS; arc++) {
                if ((mirrored >> (MOST_ARCS - 1 - arc) & 1) != 0) {
                    set |= 1L << arc;
                }
            }
            return set;
        }

        private static long mirrored(long cost) {
            return -cost & ((1L << MOST_ARCS) - 1);
        }
    }

    /** Forests of the whole graph. */
    private static final class Forests {
        private final Graph graph;
        private final Labels labels;
        private final TreeCount treeCount;
        /** For an arc outside of a forest: the heaviest arc, the least of several, that it may replace. */
        private final int[] heaviest;
        int nextWeight;
        int nextIn;
        int nextOut;

        Forests(Graph graph) {
            this.graph = graph;
            labels = new Labels();
            treeCount = new TreeCount();
            heaviest = new int[MOST_ARCS];
        }

        int countParts() {
            findLeast();
            return labels.groups;
        }

        /** Leaves the parts of the graph in the labels. */
        long findLeast() {
            labels.separate(graph.nodes);
            long set = 0;
            for (int i = 0; i < graph.size; i++) {
                int arc = graph.order[i];
                if (labels.unite(graph.from[arc], graph.to[arc])) {
                    set |= 1L << arc;
                }
            }
            return set;
        }

        /**
         * What hangs together by the arcs up to a weight is the same in every least forest, so the
         * choices among the arcs of each weight are independent.
         */
        long countLeast() {
            labels.separate(graph.nodes);
            long count = 1;
            int start = 0;
            for (int end = 1; end <= graph.size; end++) {
                if (end == graph.size || weightAt(end) != weightAt(start)) {
                    count *= choicesAmong(start, end);
                    start = end;
                }
            }
            return count;
        }

        private int weightAt(int place) {
            return graph.weight[graph.order[place]];
        }

        private long choicesAmong(int start, int end) {
            treeCount.begin(labels);
            for (int i = start; i < end; i++) {
                int arc = graph.order[i];
                treeCount.link(graph.from[arc], graph.to[arc]);
            }
            for (int i = start; i < end; i++) {
                int arc = graph.order[i];
                labels.unite(graph.from[arc], graph.to[arc]);
            }
            return treeCount.finish(labels);
        }

        boolean findNext() {
            long least = findLeast();
            if (graph.present == least) {
                return false;
            }
            findHeaviest(least);
            int leastRise = MOST_WEIGHT + 1;
            for (int arc = 0; arc < graph.numbered; arc++) {
                int out = heaviest[arc];
                if (out >= 0 && graph.weight[arc] - graph.weight[out] < leastRise) {
                    leastRise = graph.weight[arc] - graph.weight[out];
                    nextIn = arc;
                    nextOut = out;
                }
            }
            nextWeight = graph.weightOf(least) + leastRise;
            return true;
        }

        int verdict(long set) {
            if ((set & ~graph.present) != 0) {
                return 1;
            }
            int parts = countParts();
            if (!hangBy(set)) {
                return 2;
            }
            if (labels.groups != parts) {
                return 3;
            }
            findHeaviest(set);
            for (int arc = 0; arc < graph.numbered; arc++) {
                int out = heaviest[arc];
                if (out >= 0 && graph.weight[out] > graph.weight[arc]) {
                    return 100 + arc;
                }
            }
            return 0;
        }

        /** The arcs come by weight: the one that brings both together tells the height. */
        int leastHeight(int a, int b) {
            if (a == b) {
                return 0;
            }
            labels.separate(graph.nodes);
            for (int i = 0; i < graph.size; i++) {
                int arc = graph.order[i];
                labels.unite(graph.from[arc], graph.to[arc]);
                if (!labels.areApart(a, b)) {
                    return graph.weight[arc];
                }
            }
            return THERE_IS_NONE;
        }

        /** Labels what hangs together by a set; answers whether it has no ring. */
        private boolean hangBy(long set) {
            labels.separate(graph.nodes);
            boolean ringless = true;
            for (int arc = 0; arc < graph.numbered; arc++) {
                if (Graph.isIn(set, arc) && !labels.unite(graph.from[arc], graph.to[arc])) {
                    ringless = false;
                }
            }
            return ringless;
        }

        /** An arc is on the way between two nodes just if they are apart without it. */
        private void findHeaviest(long forest) {
            Arrays.fill(heaviest, -1);
            for (int out = 0; out < graph.numbered; out++) {
                if (Graph.isIn(forest, out)) {
                    hangBy(forest & ~(1L << out));
                    offer(out, graph.present & ~forest);
                }
            }
        }

        private void offer(int out, long others) {
            for (int arc = 0; arc < graph.numbered; arc++) {
                if (Graph.isIn(others, arc) && labels.areApart(graph.from[arc], graph.to[arc])) {
                    int known = heaviest[arc];
                    if (known < 0 || graph.weight[out] > graph.weight[known]) {
                        heaviest[arc] = out;
                    }
                }
            }
        }
    }

    /** Counts trees over groups of nodes: the determinant of degrees less links, without one group a part. */
    private static final class TreeCount {
        private final int[] groupOf = new int[MOST_NODES];
        private final long[][] links = new long[MOST_NODES][MOST_NODES];
        private final int[] rows = new int[MOST_NODES];
        private final long[][] minor = new long[MOST_NODES][MOST_NODES];

        void begin(Labels groups) {
            System.arraycopy(groups.label, 0, groupOf, 0, MOST_NODES);
            for (int node = 0; node < MOST_NODES; node++) {
                Arrays.fill(links[node], 0);
            }
        }

        void link(int from, int to) {
            int a = groupOf[from];
            int b = groupOf[to];
            if (a != b) {
                links[a][a]++;
                links[b][b]++;
                links[a][b]--;
                links[b][a]--;
            }
        }

        /** The labels are those that the links have led to. */
        long finish(Labels after) {
            int size = 0;
            for (int node = 0; node < after.nodes; node++) {
                if (groupOf[node] == node && after.label[node] != node) {
                    rows[size] = node;
                    size++;
                }
            }
            for (int r = 0; r < size; r++) {
                for (int c = 0; c < size; c++) {
                    minor[r][c] = links[rows[r]][rows[c]];
                }
            }
            return determinant(size);
        }

        /** Each division leaves no rest: what stands in the rows are determinants themselves. */
        private long determinant(int size) {
            long last = 1;
            for (int p = 0; p < size; p++) {
                long pivot = minor[p][p];
                if (pivot == 0) {
                    return 0;
                }
                for (int r = p + 1; r < size; r++) {
                    for (int c = p + 1; c < size; c++) {
                        minor[r][c] = (minor[r][c] * pivot - minor[r][p] * minor[p][c]) / last;
                    }
                }
                last = pivot;
            }
            return last;
        }
    }

    /**
     * Trees with few arcs at each node, seen from node 0. What hangs below a node is a set of the
     * other nodes; node n has the bit n - 1 there, since node 0 is never below.
     */
    private static final class BoundedTrees {
        private static final int SETS = 1 << (MOST_BOUNDED_NODES - 1);

        private final Graph graph;
        /** At [a][b]: the cost of the best arc between two nodes. */
        private final long[][] between;
        /** At [node][set]: the least cost of one branch of the node, its arc there too, over the set. */
        private final long[][] branch;
        /** At [k * MOST_BOUNDED_NODES + node][set]: likewise of k branches at most, over the set in all. */
        private final long[][] branches;
        private int nodes;
        private int bound;

        BoundedTrees(Graph graph) {
            this.graph = graph;
            between = new long[MOST_BOUNDED_NODES][MOST_BOUNDED_NODES];
            branch = new long[MOST_BOUNDED_NODES][SETS];
            branches = new long[MOST_BOUNDED_NODES * MOST_BOUNDED_NODES][SETS];
        }

        /** For 7 nodes at most; where there are several parts no tree holds all nodes. */
        long leastCost(int d) {
            nodes = Math.min(graph.nodes, MOST_BOUNDED_NODES);
            if (nodes <= 1) {
                return 0;
            }
            if (d <= 0) {
                return NO_COST;
            }
            bound = Math.min(d, nodes - 1);
            findBetween();
            startEmpty();
            int all = (1 << (nodes - 1)) - 1;
            for (int set = 1; set <= all; set++) {
                findOneBranch(set);
                findBranches(set);
            }
            return branches[row(bound, 0)][all];
        }

        private static int row(int k, int node) {
            return k * MOST_BOUNDED_NODES + node;
        }

        private static boolean isBelow(int node, int set) {
            return node > 0 && (set >> (node - 1) & 1) != 0;
        }

        /** Of arcs between the same nodes only the best can be in the best tree. */
        private void findBetween() {
            for (int node = 0; node < nodes; node++) {
                Arrays.fill(between[node], NO_COST);
            }
            for (int i = 0; i < graph.size; i++) {
                int arc = graph.order[i];
                int a = graph.from[arc];
                int b = graph.to[arc];
                long cost = Math.min(between[a][b], Cost.of(graph.weight[arc], arc));
                between[a][b] = cost;
                between[b][a] = cost;
            }
        }

        private void startEmpty() {
            for (int node = 0; node < nodes; node++) {
                for (int k = 0; k <= bound; k++) {
                    Arrays.fill(branches[row(k, node)], NO_COST);
                    branches[row(k, node)][0] = 0;
                }
            }
        }

        /** A node below has one arc upwards, which leaves it one branch less than the bound. */
        private void findOneBranch(int set) {
            for (int node = 0; node < nodes; node++) {
                long best = NO_COST;
                for (int top = 1; top < nodes; top++) {
                    if (isBelow(top, set) && !isBelow(node, set)) {
                        int rest = set & ~(1 << (top - 1));
                        best = Math.min(best, between[node][top] + branches[row(bound - 1, top)][rest]);
                    }
                }
                branch[node][set] = best;
            }
        }

        private void findBranches(int set) {
            for (int node = 0; node < nodes; node++) {
                if (!isBelow(node, set)) {
                    splitOffOne(node, set);
                }
            }
        }

        /** The branch that is split off is the one with the least node: so each choice comes once. */
        private void splitOffOne(int node, int set) {
            int leastBit = set & -set;
            for (int one = set; one > 0; one = (one - 1) & set) {
                if ((one & leastBit) != 0 && branch[node][one] < NO_COST) {
                    for (int k = 1; k <= bound; k++) {
                        long cost = branch[node][one] + branches[row(k - 1, node)][set & ~one];
                        long known = branches[row(k, node)][set];
                        branches[row(k, node)][set] = Math.min(known, cost);
                    }
                }
            }
        }
    }

    /**
     * Trees away from a root. The cost of an arc has its weight on top and below it a field for each
     * node but the root, node 0's uppermost, that holds the number of the arc to that node: so the
     * least sum of costs is that of the tree looked for, and tells its arcs.
     */
    private static final class TreesFromRoot {
        private static final int FIELD_BITS = 5;
        private static final int FIELD_MASK = (1 << FIELD_BITS) - 1;
        private static final int FIELDS = MOST_NODES - 1;

        private final Graph graph;
        private final int[] tail;
        private final int[] head;
        private final long[] cost;
        private final long[] leastInto;
        private final int[] before;
        private final int[] group;
        private int nodes;
        private int arcs;
        private int root;

        TreesFromRoot(Graph graph) {
            this.graph = graph;
            tail = new int[MOST_ARCS];
            head = new int[MOST_ARCS];
            cost = new long[MOST_ARCS];
            leastInto = new long[MOST_NODES];
            before = new int[MOST_NODES];
            group = new int[MOST_NODES];
        }

        static int weightIn(long sum) {
            return (int) (sum >> (FIELDS * FIELD_BITS));
        }

        static int arcIn(long sum, int start, int node) {
            return (int) (sum >> fieldOf(start, node)) & FIELD_MASK;
        }

        private static int fieldOf(int start, int node) {
            int place = node < start ? node : node - 1;
            return (FIELDS - 1 - place) * FIELD_BITS;
        }

        int outOfReach(int start) {
            int reached = 1 << start;
            for (int step = 1; step < graph.nodes; step++) {
                for (int i = 0; i < graph.size; i++) {
                    int arc = graph.order[i];
                    if ((reached >> graph.from[arc] & 1) != 0) {
                        reached |= 1 << graph.to[arc];
                    }
                }
            }
            return graph.allNodes() & ~reached;
        }

        /**
         * Each node takes its cheapest arc; each ring that comes of it becomes one node, and it begins
         * anew. What the root doesn't reach is at last a node without an arc to it.
         */
        long leastCost(int start) {
            takeArcs(start);
            long sum = 0;
            for (int round = 0; round < MOST_NODES; round++) {
                if (!chooseArcs()) {
                    return NO_COST;
                }
                for (int node = 0; node < nodes; node++) {
                    sum += leastInto[node];
                }
                int rings = findRings();
                if (rings == 0) {
                    return sum;
                }
                contract(rings);
            }
            return NO_COST;
        }

        private void takeArcs(int start) {
            nodes = graph.nodes;
            root = start;
            arcs = 0;
            for (int i = 0; i < graph.size; i++) {
                int arc = graph.order[i];
                if (graph.to[arc] != start) {
                    long weight = graph.weight[arc];
                    tail[arcs] = graph.from[arc];
                    head[arcs] = graph.to[arc];
                    cost[arcs] = (weight << (FIELDS * FIELD_BITS)) + ((long) arc << fieldOf(start, graph.to[arc]));
                    arcs++;
                }
            }
        }

        /** Answers whether each node but the root has an arc to it. */
        private boolean chooseArcs() {
            Arrays.fill(leastInto, NO_COST);
            leastInto[root] = 0;
            for (int i = 0; i < arcs; i++) {
                if (cost[i] < leastInto[head[i]]) {
                    leastInto[head[i]] = cost[i];
                    before[head[i]] = tail[i];
                }
            }
            boolean complete = true;
            for (int node = 0; node < nodes; node++) {
                complete = complete && leastInto[node] < NO_COST;
            }
            return complete;
        }

        /**
         * Numbers the rings among the chosen arcs in the groups; other nodes stay below 0. Who goes
         * back as many steps as there are nodes without an end is on a ring.
         */
        private int findRings() {
            Arrays.fill(group, -1);
            int rings = 0;
            for (int from = 0; from < nodes; from++) {
                int node = from;
                for (int step = 0; step < nodes && isLoose(node); step++) {
                    node = before[node];
                }
                if (isLoose(node)) {
                    markRing(node, rings);
                    rings++;
                }
            }
            return rings;
        }

        private boolean isLoose(int node) {
            return node != root && group[node] < 0;
        }

        private void markRing(int first, int ring) {
            int node = first;
            for (int step = 0; step < nodes && isLoose(node); step++) {
                group[node] = ring;
                node = before[node];
            }
        }

        /** An arc into a ring takes the place of the ring's own arc, so it costs only what it adds. */
        private void contract(int rings) {
            int groups = rings;
            for (int node = 0; node < nodes; node++) {
                if (group[node] < 0) {
                    group[node] = groups;
                    groups++;
                }
            }
            int kept = 0;
            for (int i = 0; i < arcs; i++) {
                int from = group[tail[i]];
                int to = group[head[i]];
                if (from != to) {
                    cost[kept] = cost[i] - leastInto[head[i]];
                    tail[kept] = from;
                    head[kept] = to;
                    kept++;
                }
            }
            arcs = kept;
            root = group[root];
            nodes = groups;
        }
    }

    /** Trees for some ends: the best of the least trees of all sets of nodes that have the ends. */
    private static final class JoiningTrees {
        private final Graph graph;
        private final Labels labels;

        JoiningTrees(Graph graph) {
            this.graph = graph;
            labels = new Labels();
        }

        long leastCost(int ends) {
            long best = NO_COST;
            int all = graph.allNodes();
            for (int among = ends; among <= all; among++) {
                if ((among & ends) == ends) {
                    best = Math.min(best, treeCost(among, best));
                }
            }
            return best;
        }

        /** Ends early where the tree would cost as much as is known already. */
        private long treeCost(int among, long known) {
            labels.separate(graph.nodes);
            int missing = Integer.bitCount(among) - 1;
            long sum = 0;
            for (int i = 0; i < graph.size && missing > 0 && sum < known; i++) {
                int arc = graph.order[i];
                int from = graph.from[arc];
                int to = graph.to[arc];
                if ((among >> from & among >> to & 1) != 0 && labels.unite(from, to)) {
                    sum += Cost.of(graph.weight[arc], arc);
                    missing--;
                }
            }
            return missing == 0 ? sum : NO_COST;
        }
    }
}
