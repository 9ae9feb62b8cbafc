/** What promises 7 to 14 say of boundary cases: a test for each sentence. */
public final class ForestsBoundaryTest {
    private static final Check check = new Check();

    public static void main(String[] args) {
        parts();
        least();
        leastSet();
        ties();
        next();
        nextNone();
        swapOut();
        swapIn();
        swapOutside();
        swapNone();
        judgeNothingBeats();
        judgeNoArc();
        judgeRing();
        judgeNotTogether();
        judgeBeaten();
        judgeFirstThatFits();
        height();
        heightOfTheSame();
        heightNoSuchNode();
        heightNone();
        check.end("ForestsBoundaryTest");
    }

    /** Each two nodes whose pairs out of 0 .. 4 have one in common: 30 arcs, each node has 6 of them. */
    private static RootedTrees densest(int weight) {
        int[] pairs = {3, 5, 9, 17, 6, 10, 18, 12, 20, 24};
        RootedTrees x = Check.graph(10);
        for (int a = 0; a < 10; a++) {
            for (int b = 0; b < a; b++) {
                if ((pairs[a] & pairs[b]) != 0) {
                    x.arc(b, a, weight);
                }
            }
        }
        return x;
    }

    /** A way over all nodes whose arcs have the numbers from first on. */
    private static RootedTrees way(int first, int nodes, int weight) {
        RootedTrees x = Check.graph(nodes);
        Check.skip(first, x);
        for (int i = 1; i < nodes; i++) {
            x.arc(i, i - 1, weight);
        }
        return x;
    }

    private static void parts() {
        check.sentence("Promise 7: How many PARTS there are");
        RootedTrees x = new RootedTrees();
        check.due("no nodes", x.parts(), 0);
        for (int i = 1; i <= 10; i++) {
            x.node();
            check.due("no arcs", x.parts(), i);
        }
        for (int i = 0; i < 9; i++) {
            x.arc(9, i, 0);
            check.due("one arc more", x.parts(), 9 - i);
        }
        x.arc(3, 4, 0);
        check.due("an arc within a part", x.parts(), 1);
        x.drop(9);
        check.due("a ring is opened", x.parts(), 1);
        for (int i = 0; i < 9; i++) {
            x.drop(i);
            check.due("one arc less", x.parts(), 2 + i);
        }
        check.due("a full graph", densest(0).parts(), 1);
    }

    private static void least() {
        check.sentence("Promise 8: The WEIGHT of THE LEAST");
        check.due("no nodes", new RootedTrees().least(), 0);
        check.due("no arcs", Check.graph(10).least(), 0);
        check.due("arcs of weight 0", densest(0).least(), 0);
        check.due("arcs of the greatest weight", densest(1000).least(), 9000);
        check.due("a way of the greatest weight", way(21, 10, 1000).least(), 9000);
        RootedTrees x = way(0, 10, 1000);
        check.due("change", x.change(8, 999), 1000);
        check.due("one less", x.least(), 8999);
        x.drop(0);
        check.due("a part less its arc", x.least(), 7999);
        x.arc(0, 1, 0);
        check.due("joined by weight 0", x.least(), 7999);
    }

    private static void leastSet() {
        check.sentence("Promise 9: THE LEAST, as bits");
        check.due("no nodes", new RootedTrees().leastSet(), 0);
        check.due("no arcs", Check.graph(10).leastSet(), 0);
        check.due("the last numbers", way(21, 10, 5).leastSet(), 511L << 21);
        check.due("the first numbers", way(0, 10, 5).leastSet(), 511L);
        RootedTrees x = way(20, 10, 5);
        x.arc(0, 9, 5);
        check.due("all alike", x.leastSet(), 511L << 20);
        x.change(29, 4);
        check.due("the last one is lighter", x.leastSet(), 255L << 20 | 1L << 29);
        x.change(20, 1000);
        check.due("the first one is heavier", x.leastSet(), 511L << 21);
    }

    private static void ties() {
        check.sentence("Promise 10: How many FORESTS have its WEIGHT");
        check.due("no nodes", new RootedTrees().ties(), 1);
        check.due("no arcs", Check.graph(10).ties(), 1);
        check.due("one way", way(21, 10, 1000).ties(), 1);
        check.due("as many as can be", densest(1000).ties(), 2048000);
        check.due("as many of weight 0", densest(0).ties(), 2048000);
        RootedTrees ring = way(0, 10, 7);
        ring.arc(0, 9, 7);
        check.due("a ring", ring.ties(), 10);
        ring.change(9, 8);
        check.due("a ring with a heavier arc", ring.ties(), 1);
        ring.change(9, 6);
        check.due("a ring with a lighter arc", ring.ties(), 9);
        ring.drop(9);
        check.due("the ring is no more", ring.ties(), 1);
        RootedTrees pairs = Check.graph(10);
        for (int i = 0; i < 30; i++) {
            pairs.arc(i % 5 * 2, i % 5 * 2 + 1, i % 5);
        }
        check.due("five parts with six each", pairs.ties(), 7776);
        pairs.change(0, 1);
        check.due("five in one of them", pairs.ties(), 6480);
        pairs.change(0, 0);
        pairs.change(1, 0);
        check.due("one in one of them", pairs.ties(), 1296);
    }

    private static void next() {
        check.sentence("Promise 11: The WEIGHT of THE NEXT");
        check.due("as light, of weight 0", densest(0).next(), 0);
        check.due("as light, of the greatest weight", densest(1000).next(), 9000);
        RootedTrees x = way(0, 10, 0);
        x.arc(0, 9, 1000);
        check.due("the greatest rise", x.next(), 1000);
        x.change(9, 1);
        check.due("the least rise", x.next(), 1);
        RootedTrees y = way(0, 10, 1000);
        y.arc(0, 9, 0);
        check.due("the least is without one of them", y.next(), 8000);
        y.change(0, 999);
        check.due("the heaviest goes out", y.leastSet(), 767);
        check.due("as light still", y.next(), 7999);
    }

    private static void nextNone() {
        check.sentence("Promise 11: -3 there is no other FOREST");
        check.refused("no nodes", RootedTrees::new, x -> x.next(), -3);
        check.refused("no arcs", () -> Check.graph(10), x -> x.next(), -3);
        check.refused("one arc", () -> Check.graph(2, 0, 1, 3), x -> x.next(), -3);
        check.refused("a way", () -> way(21, 10, 3), x -> x.next(), -3);
        RootedTrees ring = Check.graph(3, 0, 1, 1, 1, 2, 1, 2, 0, 1000);
        check.due("a ring", ring.next(), 1001);
        ring.drop(0);
        check.due("the ring is no more", ring.next(), -3);
        ring.arc(0, 2, 0);
        check.due("two arcs between the same", ring.next(), 1001);
    }

    private static void swapOut() {
        check.sentence("Promise 12: Its ARC OUT (0)");
        check.due("arc 0", Check.graph(2, 0, 1, 3, 0, 1, 4).swap(0), 0);
        RootedTrees x = Check.graph(2, 0, 1, 4);
        Check.skip(28, x);
        x.arc(1, 0, 3);
        check.due("arc 29", x.swap(0), 29);
        RootedTrees y = steepest();
        check.due("the only one, for the greatest rise", y.swap(0), 1);
    }

    private static void swapIn() {
        check.sentence("Promise 12: IN (1)");
        check.due("arc 0", Check.graph(2, 0, 1, 4, 0, 1, 3).swap(1), 0);
        RootedTrees x = Check.graph(2, 0, 1, 3);
        Check.skip(28, x);
        x.arc(1, 0, 4);
        check.due("arc 29", x.swap(1), 29);
        RootedTrees y = steepest();
        check.due("the only one, with the greatest rise", y.swap(1), 2);
    }

    /** For an arc of weight 0 only one of the greatest weight can come in. */
    private static RootedTrees steepest() {
        return Check.graph(3, 0, 1, 1000, 1, 2, 0, 2, 1, 1000);
    }

    private static void swapOutside() {
        check.sentence("Promise 12: -2");
        int[] wrong = {-1, 2, 3, 256, 1 << 16, 1 << 31, Integer.MAX_VALUE};
        for (int what : wrong) {
            check.refused("what " + what, () -> Check.graph(2, 0, 1, 4, 0, 1, 3), x -> x.swap(what), -2);
            check.refused("what " + what + " without another", () -> way(0, 3, 1), x -> x.swap(what), -2);
        }
    }

    private static void swapNone() {
        check.sentence("Promise 12: -3");
        for (int what = 0; what < 2; what++) {
            int asked = what;
            check.refused("no nodes", RootedTrees::new, x -> x.swap(asked), -3);
            check.refused("no arcs", () -> Check.graph(10), x -> x.swap(asked), -3);
            check.refused("a way", () -> way(21, 10, 3), x -> x.swap(asked), -3);
            RootedTrees x = Check.graph(2, 0, 1, 3, 0, 1, 4);
            check.due("before the drop", x.swap(what), what);
            x.drop(0);
            check.due("after the drop", x.swap(what), -3);
        }
    }

    private static void judgeNothingBeats() {
        check.sentence("Promise 13: 0 it is a FOREST that nothing BEATS");
        check.due("nothing, without nodes", new RootedTrees().judge(0), 0);
        check.due("nothing, without arcs", Check.graph(10).judge(0), 0);
        check.due("the last numbers", way(21, 10, 0).judge(511L << 21), 0);
        RootedTrees x = densest(1000);
        check.due("the first of many", x.judge(x.leastSet()), 0);
        check.due("another one that is as light", Check.graph(2, 0, 1, 0, 0, 1, 0).judge(2), 0);
    }

    private static void judgeNoArc() {
        check.sentence("Promise 13: 1 it has what is no ARC");
        RootedTrees x = densest(3);
        long least = x.leastSet();
        for (int bit = 30; bit < 64; bit++) {
            check.due("bit " + bit, x.judge(1L << bit), 1);
            check.due("bit " + bit + " and a forest", x.judge(least | 1L << bit), 1);
        }
        check.due("all bits", x.judge(-1L), 1);
        check.due("the last bit alone", x.judge(Long.MIN_VALUE), 1);
        check.due("all but the last", x.judge(Long.MAX_VALUE), 1);
        RootedTrees y = Check.graph(2, 0, 1, 3, 0, 1, 3);
        check.due("an arc that is not yet", y.judge(4), 1);
        y.drop(0);
        check.due("a dropped arc", y.judge(1), 1);
        check.due("without nodes", new RootedTrees().judge(1), 1);
        y.clear();
        check.due("a cleared arc", y.judge(2), 1);
    }

    private static void judgeRing() {
        check.sentence("Promise 13: 2 it has a ring");
        check.due("two arcs, to and fro", Check.graph(2, 0, 1, 3, 1, 0, 3).judge(3), 2);
        check.due("two arcs, alike", Check.graph(2, 0, 1, 3, 0, 1, 3).judge(3), 2);
        check.due("three arcs, not round as they lead", Check.graph(3, 0, 1, 3, 0, 2, 3, 1, 2, 3).judge(7), 2);
        check.due("all 30 arcs", densest(3).judge((1L << 30) - 1), 2);
        RootedTrees x = way(20, 10, 3);
        check.due("without the last arc", x.judge(511L << 20), 0);
        x.arc(9, 0, 3);
        check.due("with the last arc", x.judge(1023L << 20), 2);
    }

    private static void judgeNotTogether() {
        check.sentence("Promise 13: 3 NODES of a PART do not hang together");
        check.due("nothing", Check.graph(2, 0, 1, 3).judge(0), 3);
        RootedTrees x = way(21, 10, 3);
        for (int i = 0; i < 9; i++) {
            check.due("all but one", x.judge(511L << 21 & ~(1L << (21 + i))), 3);
        }
        RootedTrees y = Check.graph(4, 0, 1, 3, 2, 3, 3);
        check.due("one part of two", y.judge(2), 3);
        check.due("nodes of two parts need not", y.judge(3), 0);
    }

    private static void judgeBeaten() {
        check.sentence("Promise 13: 100 and the least ARC that BEATS it");
        RootedTrees x = Check.graph(2);
        for (int i = 0; i < 30; i++) {
            x.arc(i % 2, 1 - i % 2, 500);
        }
        check.due("none is lighter", x.judge(1L << 15), 0);
        x.change(29, 499);
        check.due("arc 29", x.judge(1L << 15), 129);
        x.change(28, 0);
        check.due("the least, though 28 is lighter", x.judge(1L << 15), 128);
        x.change(0, 499);
        check.due("arc 0", x.judge(1L << 15), 100);
        check.due("arc 28 beats what is lighter than the others", x.judge(1L), 128);
        check.due("nothing beats the lightest", x.judge(1L << 28), 0);
    }

    private static void judgeFirstThatFits() {
        check.sentence("Promise 13: (The first that fits.)");
        RootedTrees x = Check.graph(5, 0, 1, 9, 1, 0, 2, 2, 3, 9, 3, 4, 1, 4, 2, 1, 4, 2, 1);
        check.due("no arc, a ring, apart", x.judge(Check.bits(0, 1, 6)), 1);
        check.due("no arc, apart", x.judge(Check.bits(63)), 1);
        check.due("no arc, a forest that is beaten", x.judge(Check.bits(0, 2, 3, 6)), 1);
        check.due("a ring, apart", x.judge(Check.bits(0, 1)), 2);
        check.due("a ring, and what would be beaten", x.judge(Check.bits(0, 2, 3, 4)), 2);
        check.due("apart, and what would be beaten", x.judge(Check.bits(0, 2)), 3);
        check.due("beaten", x.judge(Check.bits(0, 2, 3)), 101);
        check.due("beaten in the other part", x.judge(Check.bits(1, 2, 3)), 104);
    }

    private static void height() {
        check.sentence("Promise 14: The least HEIGHT of a way between two NODES");
        check.due("the greatest", way(0, 10, 1000).height(0, 9), 1000);
        check.due("weight 0", way(0, 10, 0).height(9, 0), 0);
        RootedTrees x = way(0, 10, 1);
        x.arc(0, 9, 2);
        check.due("nine arcs that are lower than one", x.height(0, 9), 1);
        x.change(4, 3);
        check.due("one arc that is lower than nine", x.height(0, 9), 2);
        check.due("around the heaviest", x.height(4, 5), 2);
        x.change(9, 3);
        check.due("as high either way", x.height(0, 9), 3);
        check.due("alike arcs, the lighter one", Check.graph(2, 0, 1, 1000, 0, 1, 999).height(1, 0), 999);
    }

    private static void heightOfTheSame() {
        check.sentence("Promise 14: (0 for the same)");
        RootedTrees alone = Check.graph(10);
        RootedTrees heavy = way(0, 10, 1000);
        for (int node = 0; node < 10; node++) {
            check.due("alone", alone.height(node, node), 0);
            check.due("with heavy arcs", heavy.height(node, node), 0);
        }
    }

    private static void heightNoSuchNode() {
        check.sentence("Promise 14: -1");
        int[] wrong = {3, 4, -1, 9, 10, 32, Integer.MIN_VALUE, Integer.MAX_VALUE};
        for (int node : wrong) {
            check.refused("from " + node, () -> way(0, 3, 5), x -> x.height(node, 1), -1);
            check.refused("to " + node, () -> way(0, 3, 5), x -> x.height(1, node), -1);
            check.refused("from and to " + node, () -> way(0, 3, 5), x -> x.height(node, node), -1);
        }
        check.refused("no nodes", RootedTrees::new, x -> x.height(0, 0), -1);
        check.refused("node 10 of 10", () -> densest(1), x -> x.height(9, 10), -1);
    }

    private static void heightNone() {
        check.sentence("Promise 14: -3 there is none");
        check.refused("no arcs", () -> Check.graph(10), x -> x.height(0, 9), -3);
        check.refused("two parts", () -> Check.graph(4, 0, 1, 0, 3, 2, 0), x -> x.height(1, 3), -3);
        RootedTrees x = way(0, 10, 0);
        check.due("before the drop", x.height(0, 9), 0);
        x.drop(8);
        check.due("after the drop", x.height(0, 9), -3);
        check.due("on this side of it", x.height(0, 8), 0);
    }
}
