import java.util.function.Supplier;
import java.util.function.ToLongBiFunction;

/** What promises 15 to 21 say of boundary cases: a test for each sentence. */
public final class TreesBoundaryTest {
    private static final Check check = new Check();

    private static final ToLongBiFunction<RootedTrees, Integer> BOUNDED = RootedTrees::bounded;
    private static final ToLongBiFunction<RootedTrees, Integer> BOUNDED_SET = RootedTrees::boundedSet;
    private static final ToLongBiFunction<RootedTrees, Integer> JOINED = RootedTrees::joined;
    private static final ToLongBiFunction<RootedTrees, Integer> JOINED_SET = RootedTrees::joinedSet;

    public static void main(String[] args) {
        bounded();
        boundedOutside("Promise 15: -2 d is not 0 .. 9", BOUNDED);
        boundedNoRoom("Promise 15: -4 there are more than 7 NODES", BOUNDED);
        boundedNone("Promise 15: -3 there is none", BOUNDED);
        boundedParts("Promise 15: -3 or more than one PART", BOUNDED);
        boundedSet();
        boundedOutside("Promise 16: -2 likewise", BOUNDED_SET);
        boundedNoRoom("Promise 16: -4 likewise", BOUNDED_SET);
        boundedNone("Promise 16: -3 likewise (none)", BOUNDED_SET);
        boundedParts("Promise 16: -3 likewise (PARTS)", BOUNDED_SET);
        rooted();
        rootedNoSuchNode();
        rootedNotReached();
        rootedArc();
        rootedArcNoSuchNode();
        rootedArcNone();
        rootedArcOfTheRoot();
        unreached();
        unreachedNoSuchNode();
        joined();
        joinedNodesThatThereAreNot("Promise 20: -2 they have NODES that there are not", JOINED);
        joinedWithoutEnds("Promise 20: -2 or none", JOINED);
        joinedApart("Promise 20: -3 they do not hang together", JOINED);
        joinedSet();
        joinedNodesThatThereAreNot("Promise 21: -2 (NODES that there are not)", JOINED_SET);
        joinedWithoutEnds("Promise 21: -2 (none)", JOINED_SET);
        joinedApart("Promise 21: -3", JOINED_SET);
        check.end("TreesBoundaryTest");
    }

    private static void isRefused(String what, Supplier<RootedTrees> graph,
            ToLongBiFunction<RootedTrees, Integer> call, int asked, int want) {
        check.refused(what, graph, x -> call.applyAsLong(x, asked), want);
    }

    private static void isFine(String what, RootedTrees x, ToLongBiFunction<RootedTrees, Integer> call, int asked) {
        check.due(what + " is no refusal", call.applyAsLong(x, asked) < 0 ? -1 : 0, 0);
    }

    /** A way from the first node to the last whose arcs have the numbers from first on. */
    private static RootedTrees way(int first, int nodes, int weight) {
        RootedTrees x = Check.graph(nodes);
        Check.skip(first, x);
        for (int i = 1; i < nodes; i++) {
            x.arc(i - 1, i, weight);
        }
        return x;
    }

    /** Each two of 7 nodes have an arc, all alike. */
    private static RootedTrees eachWithEach(int weight) {
        RootedTrees x = Check.graph(7);
        for (int a = 0; a < 7; a++) {
            for (int b = a + 1; b < 7; b++) {
                x.arc(a, b, weight);
            }
        }
        return x;
    }

    private static void bounded() {
        check.sentence("Promise 15: The WEIGHT of what is BOUNDED by d");
        for (int d = 0; d < 10; d++) {
            check.due("no node, " + d, new RootedTrees().bounded(d), 0);
            check.due("one node, " + d, Check.graph(1).bounded(d), 0);
            check.due("two nodes, " + d, Check.graph(2, 0, 1, 1000).bounded(d), d == 0 ? -3 : 1000);
            check.due("three nodes, " + d, way(0, 3, 1000).bounded(d), d < 2 ? -3 : 2000);
            check.due("7 nodes, " + d, eachWithEach(1000).bounded(d), d < 2 ? -3 : 6000);
            check.due("7 nodes, weight 0, " + d, eachWithEach(0).bounded(d), d < 2 ? -3 : 0);
        }
    }

    private static void boundedOutside(String sentence, ToLongBiFunction<RootedTrees, Integer> call) {
        check.sentence(sentence);
        int[] wrong = {-1, 10, -9, 11, 16, 256, 1 << 16, Integer.MIN_VALUE, Integer.MAX_VALUE};
        for (int d : wrong) {
            isRefused("no node, " + d, RootedTrees::new, call, d, -2);
            isRefused("7 nodes, " + d, () -> eachWithEach(4), call, d, -2);
        }
        isFine("0", Check.graph(1), call, 0);
        isFine("9", eachWithEach(4), call, 9);
    }

    private static void boundedNoRoom(String sentence, ToLongBiFunction<RootedTrees, Integer> call) {
        check.sentence(sentence);
        for (int nodes = 8; nodes <= 10; nodes++) {
            int many = nodes;
            isRefused(many + " nodes", () -> way(0, many, 3), call, 2, -4);
            isRefused(many + " nodes without arcs", () -> Check.graph(many), call, 0, -4);
        }
        RootedTrees x = way(0, 7, 3);
        isFine("7 nodes", x, call, 2);
        x.node();
        check.due("8 nodes", call.applyAsLong(x, 2), -4);
        x.clear();
        isFine("no node any more", x, call, 2);
    }

    private static void boundedNone(String sentence, ToLongBiFunction<RootedTrees, Integer> call) {
        check.sentence(sentence);
        isRefused("two nodes by 0", () -> way(0, 2, 3), call, 0, -3);
        isFine("two nodes by 1", way(0, 2, 3), call, 1);
        isRefused("three nodes by 1", () -> way(0, 3, 3), call, 1, -3);
        isFine("three nodes by 2", way(0, 3, 3), call, 2);
        isRefused("7 nodes by 1", () -> eachWithEach(3), call, 1, -3);
        isFine("7 nodes by 2", eachWithEach(3), call, 2);
        Supplier<RootedTrees> star = () -> Check.graph(7, 6, 0, 3, 6, 1, 3, 6, 2, 3, 6, 3, 3, 6, 4, 3, 6, 5, 3);
        isRefused("a star of 6 by 5", star, call, 5, -3);
        isFine("a star of 6 by 6", star.get(), call, 6);
        RootedTrees x = Check.graph(4, 0, 1, 3, 1, 2, 3, 1, 3, 3, 2, 3, 9);
        isFine("a heavier tree", x, call, 2);
        x.drop(3);
        check.due("it is no more", call.applyAsLong(x, 2), -3);
    }

    private static void boundedParts(String sentence, ToLongBiFunction<RootedTrees, Integer> call) {
        check.sentence(sentence);
        for (int d = 0; d < 10; d++) {
            isRefused("two nodes apart", () -> Check.graph(2), call, d, -3);
            isRefused("7 nodes apart", () -> Check.graph(7), call, d, -3);
            isRefused("the last one alone", () -> Check.graph(4, 0, 1, 1, 1, 2, 1, 2, 0, 1), call, d, -3);
            isRefused("the first one alone", () -> Check.graph(4, 1, 2, 1, 2, 3, 1, 3, 1, 1), call, d, -3);
        }
        RootedTrees x = way(0, 7, 3);
        x.drop(3);
        check.due("after a drop", call.applyAsLong(x, 9), -3);
        x.arc(0, 6, 3);
        isFine("together again", x, call, 2);
    }

    private static void boundedSet() {
        check.sentence("Promise 16: That, as bits");
        check.due("no node", new RootedTrees().boundedSet(0), 0);
        check.due("one node", Check.graph(1).boundedSet(9), 0);
        check.due("the first numbers", way(0, 7, 1000).boundedSet(2), 63);
        check.due("the last numbers", way(24, 7, 1000).boundedSet(2), 63L << 24);
        RootedTrees x = eachWithEach(5);
        check.due("by 6, a star", x.boundedSet(6), 63);
        check.due("by 9, a star", x.boundedSet(9), 63);
        check.due("by 5, one goes to node 1", x.boundedSet(5), Check.bits(0, 1, 2, 3, 4, 10));
        check.due("by 2, a way", x.boundedSet(2), Check.bits(0, 1, 7, 12, 16, 19));
    }

    private static void rooted() {
        check.sentence("Promise 17: The WEIGHT of THE ROOTED one");
        check.due("one node", Check.graph(1).rooted(0), 0);
        check.due("the greatest", way(21, 10, 1000).rooted(0), 9000);
        check.due("weight 0", way(21, 10, 0).rooted(0), 0);
        for (int root = 0; root < 10; root++) {
            RootedTrees ring = way(0, 10, 1000);
            ring.arc(9, 0, 1000);
            check.due("a ring, root " + root, ring.rooted(root), 9000);
            ring.change((root + 9) % 10, 0);
            check.due("the arc to the root is never in it", ring.rooted(root), 9000);
            ring.change(root, 0);
            check.due("the arc from the root is", ring.rooted(root), 8000);
        }
        RootedTrees x = way(0, 10, 0);
        for (int i = 9; i > 1; i--) {
            x.arc(i, i - 1, 0);
        }
        x.change(0, 1000);
        check.due("a ring of arcs of weight 0 within it", x.rooted(0), 1000);
    }

    private static void rootedNoSuchNode() {
        check.sentence("Promise 17: -1");
        int[] wrong = {3, 4, -1, 9, 10, 32, Integer.MIN_VALUE, Integer.MAX_VALUE};
        for (int root : wrong) {
            check.refused("root " + root, () -> way(0, 3, 5), x -> x.rooted(root), -1);
        }
        check.refused("no nodes", RootedTrees::new, x -> x.rooted(0), -1);
        check.refused("node 10 of 10", () -> way(0, 10, 5), x -> x.rooted(10), -1);
    }

    private static void rootedNotReached() {
        check.sentence("Promise 17: -3 some NODE is not to be reached");
        for (int i = 2; i <= 10; i++) {
            int nodes = i;
            check.refused("no arcs, first of " + nodes, () -> Check.graph(nodes), x -> x.rooted(0), -3);
            check.refused("no arcs, last of " + nodes, () -> Check.graph(nodes), x -> x.rooted(nodes - 1), -3);
        }
        for (int i = 1; i < 10; i++) {
            int root = i;
            check.refused("against the arcs", () -> way(0, 10, 5), x -> x.rooted(root), -3);
        }
        RootedTrees x = way(0, 10, 5);
        x.arc(9, 8, 0);
        x.arc(8, 7, 0);
        x.drop(6);
        check.due("what is not reached makes a ring", x.rooted(0), -3);
        x.arc(0, 9, 1000);
        check.due("reached again", x.rooted(0), 30 + 1000);
        RootedTrees y = Check.graph(3, 0, 1, 5);
        check.due("one alone", y.rooted(0), -3);
        check.due("the one alone as root", y.rooted(2), -3);
    }

    private static void rootedArc() {
        check.sentence("Promise 18: Its ARC to a NODE");
        for (int root = 0; root < 10; root++) {
            RootedTrees x = Check.graph(10);
            Check.skip(20, x);
            int[] arcs = new int[10];
            for (int node = 9; node >= 0; node--) {
                arcs[node] = x.arc(root, node, 1000);
            }
            int last = root == 0 ? 1 : 0;
            check.due("the 30th arc", x.arc(root, last, 999), 29);
            arcs[last] = 29;
            for (int node = 0; node < 10; node++) {
                check.due("root " + root + " to " + node, x.rootedArc(root, node), node == root ? -3 : arcs[node]);
            }
        }
        RootedTrees x = Check.graph(2, 0, 1, 3, 0, 1, 2, 0, 1, 2);
        check.due("the least of those as light", x.rootedArc(0, 1), 1);
        x.change(0, 2);
        check.due("arc 0", x.rootedArc(0, 1), 0);
    }

    private static void rootedArcNoSuchNode() {
        check.sentence("Promise 18: -1");
        int[] wrong = {3, 4, -1, 9, 10, 32, Integer.MIN_VALUE, Integer.MAX_VALUE};
        for (int node : wrong) {
            check.refused("root " + node, () -> way(0, 3, 5), x -> x.rootedArc(node, 1), -1);
            check.refused("node " + node, () -> way(0, 3, 5), x -> x.rootedArc(0, node), -1);
            check.refused("both " + node, () -> way(0, 3, 5), x -> x.rootedArc(node, node), -1);
        }
        check.refused("no nodes", RootedTrees::new, x -> x.rootedArc(0, 0), -1);
        check.refused("node 10 of 10", () -> way(0, 10, 5), x -> x.rootedArc(0, 10), -1);
    }

    private static void rootedArcNone() {
        check.sentence("Promise 18: -3");
        check.refused("no arcs", () -> Check.graph(2), x -> x.rootedArc(0, 1), -3);
        check.refused("against the arcs", () -> way(0, 3, 5), x -> x.rootedArc(2, 0), -3);
        check.refused("to one that is reached, another is not", () -> way(0, 3, 5), x -> x.rootedArc(1, 2), -3);
        RootedTrees x = way(0, 3, 5);
        check.due("before the drop", x.rootedArc(0, 1), 0);
        x.drop(1);
        check.due("after the drop", x.rootedArc(0, 1), -3);
        x.clear();
        x.node();
        x.node();
        check.due("after clear", x.rootedArc(0, 1), -3);
    }

    private static void rootedArcOfTheRoot() {
        check.sentence("Promise 18: -3 (also the root's own)");
        check.refused("one node", () -> Check.graph(1), x -> x.rootedArc(0, 0), -3);
        for (int i = 0; i < 10; i++) {
            int root = i;
            Supplier<RootedTrees> ring = () -> {
                RootedTrees x = way(0, 10, 5);
                x.arc(9, 0, 5);
                return x;
            };
            check.due("there is a rooted one", ring.get().rooted(root), 45);
            check.refused("root " + root + " with an arc to it", ring, x -> x.rootedArc(root, root), -3);
        }
        check.refused("where there is no rooted one", () -> way(0, 3, 5), x -> x.rootedArc(2, 2), -3);
    }

    private static void unreached() {
        check.sentence("Promise 19: The NODES to which no way leads from a root, as bits");
        check.due("one node", Check.graph(1).unreached(0), 0);
        for (int root = 0; root < 10; root++) {
            check.due("no arcs", Check.graph(10).unreached(root), 1023 & ~(1 << root));
            check.due("those behind", way(0, 10, 1000).unreached(root), (1 << root) - 1);
            RootedTrees ring = way(0, 10, 0);
            ring.arc(9, 0, 0);
            check.due("none", ring.unreached(root), 0);
            for (int arc = 0; arc < 10; arc++) {
                ring.change(arc, 1000 - arc);
            }
            check.due("none, whichever arc is the lightest", ring.unreached(root), 0);
            ring.drop(root);
            check.due("all the others again", ring.unreached(root), 1023 & ~(1 << root));
        }
        RootedTrees x = Check.graph(9);
        check.due("as many as there are", x.unreached(8), 255);
        x.node();
        check.due("one node more", x.unreached(8), 255 | 512);
        x.arc(8, 9, 0);
        check.due("the last one is reached", x.unreached(8), 255);
    }

    private static void unreachedNoSuchNode() {
        check.sentence("Promise 19: -1");
        int[] wrong = {3, 4, -1, 9, 10, 32, Integer.MIN_VALUE, Integer.MAX_VALUE};
        for (int root : wrong) {
            check.refused("root " + root, () -> way(0, 3, 5), x -> x.unreached(root), -1);
        }
        check.refused("no nodes", RootedTrees::new, x -> x.unreached(0), -1);
        check.refused("node 10 of 10", () -> way(0, 10, 5), x -> x.unreached(10), -1);
    }

    private static void joined() {
        check.sentence("Promise 20: The WEIGHT of THE JOINED one for ENDS");
        check.due("one node", Check.graph(1).joined(1), 0);
        RootedTrees x = way(21, 10, 1000);
        for (int a = 0; a < 10; a++) {
            for (int b = a; b < 10; b++) {
                check.due("ends " + a + ", " + b, x.joined(1 << a | 1 << b), (b - a) * 1000);
            }
        }
        check.due("all ends", x.joined(1023), 9000);
        check.due("weight 0", way(0, 10, 0).joined(1023), 0);
        RootedTrees y = Check.graph(10);
        for (int i = 0; i < 9; i++) {
            y.arc(9, i, 1);
        }
        check.due("nine ends over the tenth", y.joined(511), 9);
        check.due("the tenth too", y.joined(1023), 9);
    }

    private static void joinedNodesThatThereAreNot(String sentence, ToLongBiFunction<RootedTrees, Integer> call) {
        check.sentence(sentence);
        for (int i = 0; i <= 10; i++) {
            int nodes = i;
            isRefused("the next node of " + nodes, () -> Check.graph(nodes, 0, 1, 5), call, 1 << nodes, -2);
            isRefused("all and the next", () -> Check.graph(nodes, 0, 1, 5), call, (2 << nodes) - 1, -2);
            isRefused("node 0 and the last bit", () -> Check.graph(nodes), call, Integer.MIN_VALUE | 1, -2);
        }
        int[] wrong = {1 << 10, 1 << 16, 1 << 30, 1 << 31, -1, -2, -1024, Integer.MAX_VALUE, 1025};
        for (int ends : wrong) {
            isRefused("ends " + ends, () -> way(0, 10, 5), call, ends, -2);
        }
        isFine("the last node there is", Check.graph(10), call, 512);
    }

    private static void joinedWithoutEnds(String sentence, ToLongBiFunction<RootedTrees, Integer> call) {
        check.sentence(sentence);
        for (int i = 0; i <= 10; i++) {
            int nodes = i;
            isRefused("no ends, " + nodes + " nodes", () -> Check.graph(nodes, 0, 1, 5), call, 0, -2);
        }
    }

    private static void joinedApart(String sentence, ToLongBiFunction<RootedTrees, Integer> call) {
        check.sentence(sentence);
        isRefused("two nodes", () -> Check.graph(2), call, 3, -3);
        isRefused("all 10", () -> Check.graph(10), call, 1023, -3);
        isRefused("two parts", () -> Check.graph(4, 0, 1, 5, 2, 3, 5), call, 6, -3);
        isRefused("two together, one alone", () -> Check.graph(3, 0, 1, 5), call, 7, -3);
        RootedTrees x = Check.graph(4, 0, 1, 5, 2, 3, 6);
        isFine("one part, with another there", x, call, 12);
        isFine("one end", x, call, 4);
        RootedTrees y = way(0, 10, 5);
        isFine("before the drop", y, call, 513);
        y.drop(4);
        check.due("after the drop", call.applyAsLong(y, 513), -3);
        isFine("on one side of it", y, call, 17);
    }

    private static void joinedSet() {
        check.sentence("Promise 21: That, as bits");
        check.due("one node", Check.graph(1).joinedSet(1), 0);
        check.due("the first numbers", way(0, 10, 1000).joinedSet(513), 511);
        check.due("the last numbers", way(21, 10, 1000).joinedSet(513), 511L << 21);
        check.due("one arc of them", way(21, 10, 0).joinedSet(768), 1L << 29);
        check.due("all ends", way(21, 10, 0).joinedSet(1023), 511L << 21);
        check.due("one end", way(21, 10, 0).joinedSet(512), 0);
        RootedTrees x = Check.graph(2);
        for (int i = 0; i < 30; i++) {
            x.arc(0, 1, 1000);
        }
        check.due("the first of 30", x.joinedSet(3), 1);
        x.change(29, 999);
        check.due("the lightest of 30", x.joinedSet(3), 1L << 29);
    }
}
