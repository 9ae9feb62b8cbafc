import java.util.Random;

/** Promises 1 to 21: runs of all calls, wrong ones too, against the document's words taken plainly. */
public final class RandomRunsTest {
    private static final int RUNS = 500;
    private static final int CALLS = 500;
    private static final int[] FAR = {-1, -2, 10, 30, 31, 32, 63, 64, 1001, Integer.MIN_VALUE, Integer.MAX_VALUE};
    private static final Check check = new Check();

    private final Random random;
    private final RootedTrees x = new RootedTrees();
    private final Oracle oracle = new Oracle();
    private final int mostWeight;
    private final int mostArcs;
    private final int mostNodes;

    private RandomRunsTest(int seed) {
        random = new Random(seed);
        mostWeight = new int[] {1, 2, 5, 20, 1000}[seed % 5];
        mostArcs = 5 + seed % 6;
        mostNodes = 3 + seed % 9;
    }

    public static void main(String[] args) {
        for (int seed = 0; seed < RUNS; seed++) {
            new RandomRunsTest(seed).run(seed);
        }
        check.end("RandomRunsTest");
    }

    private void run(int seed) {
        for (int call = 0; call < CALLS; call++) {
            String where = "run " + seed + ", call " + call + ": ";
            if (random.nextInt(3) == 0) {
                changeSomething(where);
            } else {
                askSomething(where);
            }
        }
    }

    private void changeSomething(String where) {
        int kind = random.nextInt(40);
        if (kind == 0 && random.nextInt(4) == 0) {
            check.due(where + "clear", x.clear(), oracle.clear());
        } else if (kind < 8) {
            if (oracle.nodes() < mostNodes) {
                check.due(where + "node", x.node(), oracle.node());
            }
        } else if (kind < 14) {
            int arc = arc();
            int weight = weight();
            check.due(where + "change", x.change(arc, weight), oracle.change(arc, weight));
        } else if (kind < 18 || oracle.present().size() >= mostArcs) {
            int arc = arc();
            check.due(where + "drop", x.drop(arc), oracle.drop(arc));
        } else {
            int from = node();
            int to = node();
            int weight = weight();
            check.due(where + "arc", x.arc(from, to, weight), oracle.arc(from, to, weight));
        }
    }

    private void askSomething(String where) {
        switch (random.nextInt(15)) {
            case 0 -> check.due(where + "parts", x.parts(), oracle.parts());
            case 1 -> check.due(where + "least", x.least(), oracle.least());
            case 2 -> check.due(where + "leastSet", x.leastSet(), oracle.leastSet());
            case 3 -> check.due(where + "ties", x.ties(), oracle.ties());
            case 4 -> check.due(where + "next", x.next(), oracle.next());
            case 5 -> {
                int what = random.nextInt(10) == 0 ? far() : random.nextInt(2);
                check.due(where + "swap " + what, x.swap(what), oracle.swap(what));
            }
            case 6, 7 -> {
                long set = set();
                check.due(where + "judge " + set, x.judge(set), oracle.judge(set));
            }
            default -> askWithNodes(where);
        }
    }

    private void askWithNodes(String where) {
        int a = node();
        int b = node();
        int d = random.nextInt(12) == 0 ? far() : random.nextInt(11);
        int ends = random.nextInt(12) == 0 ? far() : random.nextInt(1 << oracle.nodes());
        switch (random.nextInt(8)) {
            case 0 -> check.due(where + "height", x.height(a, b), oracle.height(a, b));
            case 1 -> check.due(where + "bounded " + d, x.bounded(d), oracle.bounded(d));
            case 2 -> check.due(where + "boundedSet " + d, x.boundedSet(d), oracle.boundedSet(d));
            case 3 -> check.due(where + "rooted " + a, x.rooted(a), oracle.rooted(a));
            case 4 -> check.due(where + "rootedArc " + a + ", " + b, x.rootedArc(a, b), oracle.rootedArc(a, b));
            case 5 -> check.due(where + "unreached " + a, x.unreached(a), oracle.unreached(a));
            case 6 -> check.due(where + "joined " + ends, x.joined(ends), oracle.joined(ends));
            default -> check.due(where + "joinedSet " + ends, x.joinedSet(ends), oracle.joinedSet(ends));
        }
    }

    private int node() {
        return oracle.nodes() == 0 || random.nextInt(25) == 0 ? far() : random.nextInt(oracle.nodes());
    }

    private int arc() {
        return oracle.numbered() == 0 || random.nextInt(25) == 0 ? far() : random.nextInt(oracle.numbered());
    }

    private int weight() {
        return random.nextInt(25) == 0 ? far() : random.nextInt(mostWeight + 1);
    }

    private int far() {
        return FAR[random.nextInt(FAR.length)];
    }

    /** Often a forest or nearly one: a set at random is seldom more than a ring. */
    private long set() {
        long all = oracle.all();
        switch (random.nextInt(6)) {
            case 0:
                return random.nextLong();
            case 1:
                return random.nextLong() & all;
            case 2:
                return oracle.leastSet() ^ 1L << random.nextInt(64);
            default:
                long set = random.nextLong() & all;
                for (int tries = 0; tries < 30 && oracle.judge(set) == 2; tries++) {
                    set &= ~(1L << random.nextInt(30));
                }
                for (int arc : oracle.present()) {
                    set |= oracle.judge(set | 1L << arc) == 2 ? 0 : 1L << arc;
                }
                return set;
        }
    }
}
