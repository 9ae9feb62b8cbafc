/** Promises 17 to 19: rooted, rootedArc, unreached. */
public final class RootedTest {
    private static final Check check = new Check();

    public static void main(String[] args) {
        few();
        rings();
        ringInRing();
        firstOfSeveral();
        largest();
        unreached();
        refusals();
        check.end("RootedTest");
    }

    private static void tree(RootedTrees x, int root, int weight, int... arcs) {
        check.due("rooted " + root, x.rooted(root), weight);
        for (int node = 0; node < arcs.length; node++) {
            check.due("rootedArc " + root + ", " + node, x.rootedArc(root, node), arcs[node]);
        }
    }

    private static void few() {
        tree(Check.graph(1), 0, 0, -3);
        RootedTrees x = Check.graph(3, 0, 1, 5, 0, 1, 4, 1, 2, 9, 0, 2, 8);
        tree(x, 0, 12, -3, 1, 3);
        tree(x, 1, -3, -3, -3, -3);
        x.change(2, 0);
        tree(x, 0, 4, -3, 1, 2);
        x.drop(2);
        tree(x, 0, 12, -3, 1, 3);
    }

    /** Here the cheapest arc to each node makes a ring that has to be opened. */
    private static void rings() {
        RootedTrees x = Check.graph(4, 0, 1, 10, 1, 2, 1, 2, 3, 1, 3, 1, 1, 0, 3, 9, 0, 2, 12);
        tree(x, 0, 11, -3, 3, 1, 4);
        tree(x, 1, -3, -3, -3, -3, -3);
        x.change(4, 20);
        tree(x, 0, 12, -3, 0, 1, 2);
        x.arc(2, 0, 7);
        tree(x, 3, 9, 6, 3, 1, -3);
    }

    private static void ringInRing() {
        RootedTrees x = Check.graph(6,
            1, 2, 1, 2, 1, 1, 2, 3, 2, 3, 1, 2, 3, 4, 3, 4, 3, 3, 4, 2, 4, 0, 4, 50, 0, 1, 51, 4, 5, 7, 5, 4, 2, 0, 5, 60);
        tree(x, 0, 63, -3, 3, 0, 5, 7, 9);
        x.change(7, 1000);
        tree(x, 0, 64, -3, 8, 0, 2, 4, 9);
        x.change(8, 1000);
        tree(x, 0, 68, -3, 3, 0, 5, 10, 11);
    }

    private static void firstOfSeveral() {
        RootedTrees x = Check.graph(3, 2, 1, 4, 2, 0, 4, 0, 1, 4, 1, 0, 4);
        tree(x, 2, 8, 1, 0, -3);
        RootedTrees y = Check.graph(3, 1, 0, 4, 2, 1, 4, 0, 1, 4, 2, 0, 4);
        tree(y, 2, 8, 0, 1, -3);
        RootedTrees z = Check.graph(4, 3, 2, 0, 1, 2, 0, 2, 1, 0, 3, 1, 0, 1, 0, 0, 2, 0, 0);
        tree(z, 3, 0, 4, 2, 0, -3);
        RootedTrees w = Check.graph(3, 0, 2, 5, 2, 1, 5, 1, 2, 5, 0, 1, 5);
        tree(w, 0, 10, -3, 1, 0);
    }

    /** The number of an arc, and a weight, at the limits of each. */
    private static void largest() {
        for (int root = 0; root < 10; root++) {
            RootedTrees x = Check.graph(10);
            for (int i = 0; i < 20; i++) {
                x.drop(x.arc(0, 1, 0));
            }
            int[] arcs = new int[10];
            for (int node = 9; node >= 0; node--) {
                arcs[node] = node == root ? -3 : x.arc(root, node, 1000);
            }
            x.arc(root, root == 0 ? 1 : 0, 1000);
            tree(x, root, 9000, arcs);
            check.due("unreached", x.unreached(root), 0);
        }
    }

    private static void unreached() {
        RootedTrees x = Check.graph(5, 0, 1, 1, 1, 2, 1, 2, 0, 1, 3, 2, 1);
        check.due("unreached", x.unreached(0), Check.bits(3, 4));
        check.due("unreached", x.unreached(2), Check.bits(3, 4));
        check.due("unreached", x.unreached(3), Check.bits(4));
        check.due("unreached", x.unreached(4), Check.bits(0, 1, 2, 3));
        x.drop(2);
        check.due("unreached", x.unreached(2), Check.bits(0, 1, 3, 4));
        check.due("unreached alone", Check.graph(1).unreached(0), 0);
        RootedTrees path = Check.graph(10);
        for (int i = 8; i >= 0; i--) {
            path.arc(i, i + 1, 8 - i);
        }
        check.due("unreached on a long way", path.unreached(0), 0);
        check.due("unreached from its end", path.unreached(9), 511);
    }

    private static void refusals() {
        RootedTrees x = Check.graph(3, 0, 1, 5, 1, 2, 5);
        int[] wrong = {3, -1, 10, 32, Integer.MIN_VALUE, Integer.MAX_VALUE};
        for (int node : wrong) {
            check.due("rooted " + node, x.rooted(node), -1);
            check.due("unreached " + node, x.unreached(node), -1);
            check.due("rootedArc from " + node, x.rootedArc(node, 0), -1);
            check.due("rootedArc to " + node, x.rootedArc(0, node), -1);
            check.due("-1 ahead of -3", x.rootedArc(1, node), -1);
            check.due("-1 ahead of -3", x.rootedArc(node, node), -1);
        }
        check.due("not to be reached", x.rooted(1), -3);
        check.due("not to be reached", x.rootedArc(1, 2), -3);
        check.due("the root's own", x.rootedArc(0, 0), -3);
    }
}
