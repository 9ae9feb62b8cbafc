import java.util.List;
import java.util.function.Supplier;
import java.util.function.ToLongFunction;

/** What "Terms" says of REFUSALS: what they are, that they change nothing, and in which order they fit. */
public final class RefusalsTest {
    private static final int[] NEVER_A_NODE = {-1, 10, 31, 32, 33, 64, 1 << 16, Integer.MIN_VALUE, Integer.MAX_VALUE};
    private static final int[] NEVER_AN_ARC = {-1, 30, 31, 32, 33, 63, 64, 65, 1 << 16, Integer.MIN_VALUE, Integer.MAX_VALUE};
    private static final Check check = new Check();

    public static void main(String[] args) {
        noSuchNode();
        noSuchArc();
        outsideItsBounds();
        thereIsNone();
        noRoom();
        orderOfArc();
        orderOfChange();
        orderOfSwap();
        orderOfHeight();
        orderOfBounded();
        orderOfRootedArc();
        orderOfJoined();
        manyRefusals();
        check.end("RefusalsTest");
    }

    private static void refused(int want, String call, Supplier<RootedTrees> graph, ToLongFunction<RootedTrees> asked) {
        check.refused(call, graph, asked, want);
    }

    /** Two parts, one of them with a ring; arc 1 was dropped; not all is to be reached from any node. */
    private static RootedTrees mixed() {
        RootedTrees x = Check.graph(6, 0, 1, 3, 1, 2, 1, 2, 0, 4, 1, 2, 5, 3, 4, 6);
        x.drop(1);
        return x;
    }

    /** As full as can be, of nodes and of arcs. */
    private static RootedTrees full() {
        RootedTrees x = Check.graph(10);
        for (int i = 0; i < 30; i++) {
            x.arc(i % 10, (i + 1 + i / 10) % 10, 30 - i);
        }
        return x;
    }

    private static void noSuchNode() {
        check.sentence("REFUSALS are answers below 0, and change nothing: -1 there is no such NODE");
        for (int node : NEVER_A_NODE) {
            for (Supplier<RootedTrees> graph : graphs()) {
                refused(-1, "arc from " + node, graph, x -> x.arc(node, 0, 1));
                refused(-1, "arc to " + node, graph, x -> x.arc(0, node, 1));
                refused(-1, "height from " + node, graph, x -> x.height(node, 0));
                refused(-1, "height to " + node, graph, x -> x.height(0, node));
                refused(-1, "height of " + node + " twice", graph, x -> x.height(node, node));
                refused(-1, "rooted at " + node, graph, x -> x.rooted(node));
                refused(-1, "rootedArc from " + node, graph, x -> x.rootedArc(node, 0));
                refused(-1, "rootedArc to " + node, graph, x -> x.rootedArc(0, node));
                refused(-1, "unreached from " + node, graph, x -> x.unreached(node));
            }
        }
    }

    private static List<Supplier<RootedTrees>> graphs() {
        return List.of(RootedTrees::new, RefusalsTest::mixed, RefusalsTest::full);
    }

    private static void noSuchArc() {
        check.sentence("REFUSALS are answers below 0, and change nothing: -1 there is no such ARC");
        for (int arc : NEVER_AN_ARC) {
            for (Supplier<RootedTrees> graph : graphs()) {
                refused(-1, "change of " + arc, graph, x -> x.change(arc, 1));
                refused(-1, "drop of " + arc, graph, x -> x.drop(arc));
            }
        }
        refused(-1, "change of a dropped arc", RefusalsTest::mixed, x -> x.change(1, 1));
        refused(-1, "drop of a dropped arc", RefusalsTest::mixed, x -> x.drop(1));
        refused(-1, "change of an arc that is not yet", RefusalsTest::mixed, x -> x.change(5, 1));
        refused(-1, "drop of an arc that is not yet", RefusalsTest::mixed, x -> x.drop(5));
    }

    private static void outsideItsBounds() {
        check.sentence("REFUSALS are answers below 0, and change nothing: -2 outside its bounds");
        refused(-2, "arc too light", RefusalsTest::mixed, x -> x.arc(0, 1, -1));
        refused(-2, "arc too heavy", RefusalsTest::mixed, x -> x.arc(0, 1, 1001));
        refused(-2, "change too light", RefusalsTest::mixed, x -> x.change(0, -1));
        refused(-2, "change too heavy", RefusalsTest::mixed, x -> x.change(0, 1001));
        refused(-2, "swap -1", RefusalsTest::mixed, x -> x.swap(-1));
        refused(-2, "swap 2", RefusalsTest::mixed, x -> x.swap(2));
        refused(-2, "bounded by -1", RefusalsTest::mixed, x -> x.bounded(-1));
        refused(-2, "bounded by 10", RefusalsTest::mixed, x -> x.bounded(10));
        refused(-2, "boundedSet by -1", RefusalsTest::mixed, x -> x.boundedSet(-1));
        refused(-2, "boundedSet by 10", RefusalsTest::mixed, x -> x.boundedSet(10));
        refused(-2, "joined without ends", RefusalsTest::mixed, x -> x.joined(0));
        refused(-2, "joined with node 6", RefusalsTest::mixed, x -> x.joined(64));
        refused(-2, "joinedSet without ends", RefusalsTest::mixed, x -> x.joinedSet(0));
        refused(-2, "joinedSet with node 6", RefusalsTest::mixed, x -> x.joinedSet(64));
    }

    private static RootedTrees ringless() {
        return Check.graph(4, 0, 1, 3, 1, 2, 4);
    }

    private static void thereIsNone() {
        check.sentence("REFUSALS are answers below 0, and change nothing: -3 there is none");
        refused(-3, "next", RefusalsTest::ringless, x -> x.next());
        refused(-3, "swap 0", RefusalsTest::ringless, x -> x.swap(0));
        refused(-3, "swap 1", RefusalsTest::ringless, x -> x.swap(1));
        refused(-3, "height", RefusalsTest::ringless, x -> x.height(0, 3));
        refused(-3, "bounded", RefusalsTest::ringless, x -> x.bounded(9));
        refused(-3, "boundedSet", RefusalsTest::ringless, x -> x.boundedSet(9));
        refused(-3, "rooted", RefusalsTest::ringless, x -> x.rooted(0));
        refused(-3, "rootedArc", RefusalsTest::ringless, x -> x.rootedArc(0, 1));
        refused(-3, "the root's own", RefusalsTest::ringless, x -> x.rootedArc(0, 0));
        refused(-3, "joined", RefusalsTest::ringless, x -> x.joined(9));
        refused(-3, "joinedSet", RefusalsTest::ringless, x -> x.joinedSet(9));
    }

    private static void noRoom() {
        check.sentence("REFUSALS are answers below 0, and change nothing: -4 no room");
        refused(-4, "node", RefusalsTest::full, x -> x.node());
        refused(-4, "arc", RefusalsTest::full, x -> x.arc(0, 1, 0));
        refused(-4, "bounded", RefusalsTest::full, x -> x.bounded(3));
        refused(-4, "boundedSet", RefusalsTest::full, x -> x.boundedSet(3));
    }

    private static void orderOfArc() {
        check.sentence("the first that fits in the order in which the call names them: arc -1, -2, -4");
        refused(-1, "-1 and -2", RefusalsTest::mixed, x -> x.arc(0, 6, 1001));
        refused(-1, "-1 (from) and -2", RefusalsTest::mixed, x -> x.arc(6, 0, -1));
        refused(-1, "-1 (the same) and -2", RefusalsTest::mixed, x -> x.arc(0, 0, 1001));
        refused(-1, "-1 and -4", RefusalsTest::full, x -> x.arc(0, 10, 1));
        refused(-1, "-1 (the same) and -4", RefusalsTest::full, x -> x.arc(9, 9, 1));
        refused(-2, "-2 and -4", RefusalsTest::full, x -> x.arc(0, 1, 1001));
        refused(-2, "-2 (below) and -4", RefusalsTest::full, x -> x.arc(0, 1, -1));
        refused(-1, "-1, -2 and -4", RefusalsTest::full, x -> x.arc(-1, 1, -1));
        refused(-1, "-1 (the same), -2 and -4", RefusalsTest::full, x -> x.arc(1, 1, -1));
    }

    private static void orderOfChange() {
        check.sentence("the first that fits in the order in which the call names them: change -1, -2");
        refused(-1, "no such arc", RefusalsTest::mixed, x -> x.change(5, 1001));
        refused(-1, "a dropped arc", RefusalsTest::mixed, x -> x.change(1, -1));
        refused(-1, "below 0", RefusalsTest::mixed, x -> x.change(-1, -1));
    }

    private static void orderOfSwap() {
        check.sentence("the first that fits in the order in which the call names them: swap -2, -3");
        refused(-2, "2", RefusalsTest::ringless, x -> x.swap(2));
        refused(-2, "-1", RefusalsTest::ringless, x -> x.swap(-1));
        refused(-2, "2 without nodes", RootedTrees::new, x -> x.swap(2));
    }

    private static void orderOfHeight() {
        check.sentence("the first that fits in the order in which the call names them: height -1, -3");
        refused(-1, "no way to no node", RefusalsTest::ringless, x -> x.height(3, 4));
        refused(-1, "no way from no node", RefusalsTest::ringless, x -> x.height(-1, 3));
    }

    private static void orderOfBounded() {
        check.sentence("the first that fits in the order in which the call names them: bounded -2, -4, -3");
        for (int d : new int[] {-1, 10}) {
            refused(-2, "-2 and -3", RefusalsTest::ringless, x -> x.bounded(d));
            refused(-2, "-2 and -4", RefusalsTest::full, x -> x.bounded(d));
            refused(-2, "-2, -4 and -3", () -> Check.graph(8), x -> x.bounded(d));
            refused(-2, "set, -2 and -3", RefusalsTest::ringless, x -> x.boundedSet(d));
            refused(-2, "set, -2 and -4", RefusalsTest::full, x -> x.boundedSet(d));
            refused(-2, "set, -2, -4 and -3", () -> Check.graph(8), x -> x.boundedSet(d));
        }
        refused(-4, "-4 and -3 (parts)", () -> Check.graph(8), x -> x.bounded(9));
        refused(-4, "set, -4 and -3 (parts)", () -> Check.graph(8), x -> x.boundedSet(9));
        refused(-4, "-4 and -3 (none)", RefusalsTest::full, x -> x.bounded(0));
        refused(-4, "set, -4 and -3 (none)", RefusalsTest::full, x -> x.boundedSet(0));
    }

    private static void orderOfRootedArc() {
        check.sentence("the first that fits in the order in which the call names them: rootedArc -1, -3");
        refused(-1, "no such node, not to be reached", RefusalsTest::ringless, x -> x.rootedArc(3, 4));
        refused(-1, "no such node, below 0", RefusalsTest::ringless, x -> x.rootedArc(3, -1));
        refused(-1, "no such root", RefusalsTest::ringless, x -> x.rootedArc(4, 3));
        refused(-1, "the root's own, no such root", RefusalsTest::ringless, x -> x.rootedArc(4, 4));
        refused(-1, "the root's own, without nodes", RootedTrees::new, x -> x.rootedArc(0, 0));
    }

    private static void orderOfJoined() {
        check.sentence("the first that fits in the order in which the call names them: joined -2, -3");
        refused(-2, "apart, with a node that there is not", RefusalsTest::ringless, x -> x.joined(9 | 16));
        refused(-2, "set, apart, with a node that there is not", RefusalsTest::ringless, x -> x.joinedSet(9 | 16));
        refused(-2, "all bits", RefusalsTest::ringless, x -> x.joined(-1));
        refused(-2, "set, all bits", RefusalsTest::ringless, x -> x.joinedSet(-1));
    }

    private static void manyRefusals() {
        check.sentence("REFUSALS are answers below 0, and change nothing: many on one object");
        RootedTrees x = mixed();
        x.arc(0, 6, 1);
        x.arc(0, 0, 1);
        x.arc(0, 1, 1001);
        x.change(1, 5);
        x.change(0, 1001);
        x.drop(1);
        x.drop(5);
        x.swap(2);
        x.height(0, 6);
        x.height(0, 5);
        x.bounded(10);
        x.boundedSet(3);
        x.rooted(0);
        x.rooted(6);
        x.rootedArc(0, 0);
        x.unreached(6);
        x.joined(64);
        x.joinedSet(33);
        check.alike("after all of them", x, mixed());
    }
}
