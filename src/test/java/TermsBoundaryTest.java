import java.util.function.ToLongFunction;

/** What the document's parts "What it is" and "Terms" say of boundary cases: a test for each sentence. */
public final class TermsBoundaryTest {
    private static final int MOST_CALLS = 512;
    private static final Check check = new Check();

    public static void main(String[] args) {
        lastCall();
        tenNodes();
        thirtyArcs();
        droppedArcsCount();
        numbersDoNotComeAgain();
        toAnotherNode();
        weights();
        alikeArcs();
        bitOfAnArc();
        weightOfASet();
        firstLeast();
        firstBounded();
        firstJoined();
        whichWayArcsLead();
        greatestParts();
        forest();
        otherForests();
        leastInLeastOut();
        beats();
        heightWithoutArcs();
        whereBounded();
        arcsAtEachNode();
        justOneArcToEachNode();
        leastArcToNodeZero();
        leastArcToNodesInOrder();
        allEndsHangTogether();
        fewestArcs();
        check.end("TermsBoundaryTest");
    }

    private static void lastCall() {
        check.sentence("An object is used for at most 512 calls after it has been made");
        late("parts", x -> x.parts(), 1);
        late("least", x -> x.least(), 11);
        late("leastSet", x -> x.leastSet(), 3);
        late("ties", x -> x.ties(), 1);
        late("next", x -> x.next(), 12);
        late("swap", x -> x.swap(1), 2);
        late("judge", x -> x.judge(6), 100);
        late("height", x -> x.height(0, 2), 6);
        late("bounded", x -> x.bounded(2), 11);
        late("boundedSet", x -> x.boundedSet(2), 3);
        late("rooted", x -> x.rooted(0), 11);
        late("rootedArc", x -> x.rootedArc(0, 2), 1);
        late("unreached", x -> x.unreached(1), 0);
        late("joined", x -> x.joined(5), 7);
        late("joinedSet", x -> x.joinedSet(5), 4);
        late("node", x -> x.node(), 3);
        late("arc", x -> x.arc(0, 1, 0), 3);
        late("change", x -> x.change(2, 0), 7);
        late("drop", x -> x.drop(1), 2);
        late("clear", x -> x.clear(), 3);
    }

    /** The call is the last of those for which an object is used. */
    private static void late(String call, ToLongFunction<RootedTrees> asked, long want) {
        RootedTrees x = new RootedTrees();
        int calls = 0;
        while (calls + 18 < MOST_CALLS) {
            calls += round(x);
        }
        while (calls < MOST_CALLS - 1) {
            x.height(0, 1);
            calls++;
        }
        check.due("call " + (calls + 1) + ", " + call, asked.applyAsLong(x), want);
    }

    /** Answers how many calls it makes. */
    private static int round(RootedTrees x) {
        x.clear();
        x.node();
        x.node();
        x.node();
        x.arc(0, 1, 5);
        x.arc(1, 2, 6);
        x.arc(2, 0, 8);
        x.ties();
        x.next();
        x.judge(3);
        x.boundedSet(2);
        x.rooted(1);
        x.joinedSet(7);
        x.change(2, 7);
        return 14;
    }

    private static void tenNodes() {
        check.sentence("A GRAPH has NODES 0, 1, .. (10 at most)");
        RootedTrees x = new RootedTrees();
        for (int i = 0; i < 10; i++) {
            check.due("height before node " + i, x.height(i, i), -1);
            check.due("node", x.node(), i);
            check.due("height of node " + i, x.height(i, i), 0);
        }
        check.due("arc between the last ones", x.arc(9, 8, 3), 0);
        check.refused("node 10", () -> Check.graph(10, 9, 8, 3), full -> full.node(), -4);
        check.refused("height of node 10", () -> Check.graph(10, 9, 8, 3), full -> full.height(10, 10), -1);
    }

    private static RootedTrees thirtyAlike() {
        RootedTrees x = Check.graph(3);
        for (int i = 0; i < 30; i++) {
            x.arc(0, 1, 4);
        }
        return x;
    }

    private static void thirtyArcs() {
        check.sentence("ARCS 0, 1, .. (30 at most");
        RootedTrees x = Check.graph(3);
        for (int i = 0; i < 30; i++) {
            check.due("arc", x.arc(i % 3, (i + 1) % 3, i), i);
        }
        check.refused("arc 30", TermsBoundaryTest::thirtyAlike, full -> full.arc(1, 2, 4), -4);
        check.refused("drop of arc 30", TermsBoundaryTest::thirtyAlike, full -> full.drop(30), -1);
        check.refused("change of arc 30", TermsBoundaryTest::thirtyAlike, full -> full.change(30, 1), -1);
    }

    private static void droppedArcsCount() {
        check.sentence("those that were dropped counted");
        RootedTrees x = thirtyAlike();
        for (int i = 0; i < 30; i++) {
            check.due("drop", x.drop(i), 29 - i);
            check.due("arc after " + (i + 1) + " drops", x.arc(0, 1, 4), -4);
        }
        RootedTrees y = Check.graph(2);
        Check.skip(29, y);
        check.due("the last arc", y.arc(0, 1, 4), 29);
        check.due("one too many", y.arc(0, 1, 4), -4);
    }

    private static void numbersDoNotComeAgain() {
        check.sentence("a number does not come again");
        RootedTrees x = Check.graph(2, 0, 1, 5, 0, 1, 6);
        x.drop(1);
        check.due("after the last was dropped", x.arc(0, 1, 7), 2);
        x.drop(0);
        check.due("after the first was dropped", x.arc(0, 1, 8), 3);
        x.drop(2);
        x.drop(3);
        check.due("after all were dropped", x.arc(0, 1, 9), 4);
        check.due("drop of an old number", x.drop(3), -1);
        check.due("leastSet", x.leastSet(), Check.bits(4));
    }

    private static void toAnotherNode() {
        check.sentence("each from a NODE to another one");
        check.refused("arc without nodes", RootedTrees::new, x -> x.arc(0, 0, 1), -1);
        for (int i = 0; i < 10; i++) {
            int node = i;
            check.refused("arc to itself", () -> Check.graph(10, 0, 9, 2), x -> x.arc(node, node, 1), -1);
        }
    }

    private static void weights() {
        check.sentence("with a WEIGHT (0 to 1000)");
        RootedTrees x = Check.graph(2);
        check.due("the least weight", x.arc(0, 1, 0), 0);
        check.due("the greatest weight", x.arc(0, 1, 1000), 1);
        check.due("change to the greatest", x.change(0, 1000), 0);
        check.due("change to the least", x.change(1, 0), 1000);
        int[] wrong = {-1, 1001, 1024, Integer.MAX_VALUE, Integer.MIN_VALUE, 1 << 16, -1000};
        for (int weight : wrong) {
            check.refused("arc of weight " + weight, () -> Check.graph(2, 0, 1, 7), y -> y.arc(0, 1, weight), -2);
            check.refused("change to " + weight, () -> Check.graph(2, 0, 1, 7), y -> y.change(0, weight), -2);
        }
    }

    private static void alikeArcs() {
        check.sentence("several may be alike");
        RootedTrees x = thirtyAlike();
        check.due("parts", x.parts(), 2);
        check.due("ties", x.ties(), 30);
        check.due("leastSet", x.leastSet(), 1);
        check.due("judge of the last alone", x.judge(Check.bits(29)), 0);
        check.due("judge of two", x.judge(Check.bits(28, 29)), 2);
        check.due("next", x.next(), 4);
        check.due("in", x.swap(1), 1);
        check.due("change one", x.change(17, 3), 4);
        check.due("ties with one lighter", x.ties(), 1);
        check.due("drop it", x.drop(17), 29);
        check.due("ties of the rest", x.ties(), 29);
    }

    private static void bitOfAnArc() {
        check.sentence("SETS are of ARCS, told as bits: 2^k for ARC k");
        for (int k = 0; k < 30; k++) {
            RootedTrees x = Check.graph(2);
            Check.skip(k, x);
            long bit = 1L << k;
            check.due("arc", x.arc(1, 0, 6), k);
            check.due("leastSet", x.leastSet(), bit);
            check.due("boundedSet", x.boundedSet(1), bit);
            check.due("joinedSet", x.joinedSet(3), bit);
            check.due("judge", x.judge(bit), 0);
            check.due("judge of the bit above", x.judge(bit << 1), 1);
            check.due("judge of the bit below", x.judge(bit >> 1), k == 0 ? 3 : 1);
        }
    }

    private static void weightOfASet() {
        check.sentence("the WEIGHT of a SET is the sum of theirs");
        RootedTrees heavy = Check.graph(10);
        for (int i = 1; i < 10; i++) {
            heavy.arc(i - 1, i, 1000);
        }
        check.due("least", heavy.least(), 9000);
        check.due("rooted", heavy.rooted(0), 9000);
        check.due("joined", heavy.joined(1023), 9000);
        check.due("joined ends of the way", heavy.joined(513), 9000);
        heavy.arc(9, 0, 1000);
        check.due("next", heavy.next(), 9000);
        RootedTrees seven = Check.graph(7, 0, 1, 1000, 1, 2, 1000, 2, 3, 1000, 3, 4, 1000, 4, 5, 1000, 5, 6, 1000);
        check.due("bounded", seven.bounded(2), 6000);
        RootedTrees empty = Check.graph(1);
        check.due("least without arcs", empty.least(), 0);
        check.due("bounded without arcs", empty.bounded(0), 0);
        check.due("rooted without arcs", empty.rooted(0), 0);
        check.due("joined without arcs", empty.joined(1), 0);
    }

    /** The first set has the least arc and the greatest one: by its number as bits it would be last. */
    private static void firstLeast() {
        check.sentence("Of two SETS that is FIRST which has the least number by which they differ (leastSet)");
        RootedTrees x = Check.graph(4, 0, 1, 5, 1, 2, 5, 0, 2, 5);
        Check.skip(26, x);
        x.arc(2, 3, 5);
        check.due("leastSet", x.leastSet(), Check.bits(0, 1, 29));
        RootedTrees y = Check.graph(3, 0, 1, 9, 1, 2, 5, 2, 0, 5, 0, 1, 5);
        check.due("the least arc is too heavy", y.leastSet(), Check.bits(1, 2));
    }

    private static void firstBounded() {
        check.sentence("Of two SETS that is FIRST which has the least number by which they differ (boundedSet)");
        RootedTrees x = Check.graph(4, 0, 1, 5, 0, 2, 5, 0, 3, 5, 1, 2, 5);
        Check.skip(25, x);
        check.due("boundedSet without the greatest arc", x.boundedSet(2), Check.bits(0, 2, 3));
        x.arc(2, 3, 5);
        check.due("boundedSet", x.boundedSet(2), Check.bits(0, 1, 29));
        x.change(29, 6);
        check.due("a heavier set is not looked at", x.boundedSet(2), Check.bits(0, 2, 3));
    }

    private static void firstJoined() {
        check.sentence("Of two SETS that is FIRST which has the least number by which they differ (joinedSet)");
        RootedTrees x = Check.graph(4, 0, 1, 5, 0, 2, 5, 2, 3, 5);
        Check.skip(26, x);
        check.due("joinedSet without the greatest arc", x.joinedSet(9), Check.bits(1, 2));
        x.arc(1, 3, 5);
        check.due("joinedSet", x.joinedSet(9), Check.bits(0, 29));
        x.change(29, 6);
        check.due("a heavier set is not looked at", x.joinedSet(9), Check.bits(1, 2));
    }

    private static void whichWayArcsLead() {
        check.sentence("But for what is ROOTED it makes no difference which way ARCS lead");
        int[][] ways = {{0, 1, 2, 3, 4}, {4, 3, 2, 1, 0}};
        for (int[] way : ways) {
            RootedTrees x = Check.graph(5);
            for (int i = 1; i < 5; i++) {
                x.arc(way[i - 1], way[i], i == 1 || i == 4 ? 7 : 5);
            }
            check.due("parts", x.parts(), 1);
            check.due("leastSet", x.leastSet(), 15);
            check.due("judge", x.judge(15), 0);
            check.due("height", x.height(0, 4), 7);
            check.due("height", x.height(4, 0), 7);
            check.due("boundedSet", x.boundedSet(2), 15);
            check.due("joinedSet", x.joinedSet(17), 15);
            check.due("rooted at the first", x.rooted(way[0]), 24);
            check.due("rooted at the last", x.rooted(way[4]), -3);
            check.due("unreached", x.unreached(way[4]), 31 & ~(1 << way[4]));
        }
    }

    private static void greatestParts() {
        check.sentence("PARTS are the greatest sets of NODES that hang together by ARCS");
        check.due("no nodes", Check.graph(0).parts(), 0);
        check.due("a node alone", Check.graph(1).parts(), 1);
        check.due("each alone", Check.graph(10).parts(), 10);
        check.due("pairs", Check.graph(10, 0, 9, 0, 8, 1, 0, 2, 7, 0, 6, 3, 0, 4, 5, 0).parts(), 5);
        check.due("pairs put together", Check.graph(4, 0, 2, 0, 3, 1, 0, 2, 1, 0).parts(), 1);
        check.due("a ring and one alone", Check.graph(4, 1, 2, 0, 2, 3, 0, 3, 1, 0).parts(), 2);
    }

    private static void forest() {
        check.sentence("A FOREST is a SET without rings by which each two NODES of a PART hang together");
        check.due("the empty set, no nodes", new RootedTrees().judge(0), 0);
        check.due("the empty set, no arcs", Check.graph(10).judge(0), 0);
        RootedTrees x = Check.graph(6, 0, 1, 5, 1, 2, 5, 2, 0, 5, 3, 4, 5, 4, 3, 5);
        check.due("the empty set, with arcs", x.judge(0), 3);
        check.due("one arc too few", x.judge(Check.bits(0, 3)), 3);
        check.due("one part without an arc", x.judge(Check.bits(0, 1)), 3);
        check.due("just as many", x.judge(Check.bits(0, 1, 3)), 0);
        check.due("one arc too many", x.judge(Check.bits(0, 1, 3, 4)), 2);
        check.due("all arcs", x.judge(31), 2);
        check.due("as many, but in a ring", x.judge(Check.bits(0, 1, 2)), 2);
        check.due("ties", x.ties(), 6);
    }

    private static void otherForests() {
        check.sentence("THE NEXT: of all other FORESTS the least WEIGHT");
        check.due("as light as the least", Check.graph(2, 0, 1, 1000, 0, 1, 1000).next(), 1000);
        check.due("of weight 0", Check.graph(2, 0, 1, 0, 0, 1, 0).next(), 0);
        check.due("heavier by 1", Check.graph(2, 0, 1, 7, 0, 1, 8).next(), 8);
        check.due("heavier by the most", Check.graph(2, 0, 1, 1000, 0, 1, 0).next(), 1000);
        RootedTrees x = Check.graph(5, 0, 1, 3, 1, 0, 9, 2, 3, 4, 3, 4, 6, 4, 2, 7);
        check.due("in the part where it is lightest", x.next(), 14);
        check.due("its in", x.swap(1), 4);
        check.due("its out", x.swap(0), 3);
    }

    private static void leastInLeastOut() {
        check.sentence("the one with the least IN, of these the least OUT");
        RootedTrees x = Check.graph(4, 2, 3, 4, 1, 2, 4, 0, 1, 4, 0, 3, 6, 0, 2, 6);
        check.due("next", x.next(), 14);
        check.due("least in", x.swap(1), 3);
        check.due("least out", x.swap(0), 0);
        x.change(0, 2);
        check.due("least in, the arc 0 is too light to go", x.swap(1), 3);
        check.due("least out, the arc 0 is too light to go", x.swap(0), 1);
        RootedTrees y = Check.graph(4, 0, 1, 1, 2, 3, 5, 2, 3, 6, 0, 1, 2);
        check.due("the least in, though with a greater out", y.swap(1), 2);
        check.due("its out", y.swap(0), 1);
    }

    private static void beats() {
        check.sentence("BEATS it, if on the way between its NODES in the FOREST there is an ARC of greater WEIGHT");
        RootedTrees x = Check.graph(4, 0, 1, 5, 1, 2, 5, 2, 3, 1000, 2, 0, 5);
        check.due("as heavy; a heavier one is not on the way", x.judge(7), 0);
        x.change(3, 4);
        check.due("lighter by 1", x.judge(7), 103);
        x.change(3, 6);
        check.due("heavier by 1", x.judge(7), 0);
        x.change(1, 7);
        check.due("one on the way is heavier", x.judge(7), 103);
        RootedTrees y = Check.graph(2, 0, 1, 0, 0, 1, 0);
        check.due("of weight 0 both", y.judge(2), 0);
        y.change(1, 1);
        check.due("beaten by weight 0", y.judge(2), 100);
    }

    private static void heightWithoutArcs() {
        check.sentence("The HEIGHT of a way is the greatest WEIGHT of its ARCS (0 without any)");
        RootedTrees x = Check.graph(3, 0, 1, 1000, 1, 2, 0);
        for (int node = 0; node < 3; node++) {
            check.due("without any", x.height(node, node), 0);
        }
        check.due("one arc", x.height(0, 1), 1000);
        check.due("one arc of weight 0", x.height(1, 2), 0);
        check.due("two arcs", x.height(0, 2), 1000);
    }

    private static void whereBounded() {
        check.sentence("BOUNDED by d, where there is one PART (or no NODE) and 7 NODES at most");
        check.due("no node", new RootedTrees().boundedSet(0), 0);
        check.due("one node", Check.graph(1).boundedSet(0), 0);
        check.due("two parts", Check.graph(2).boundedSet(9), -3);
        RootedTrees x = Check.graph(7, 0, 1, 1, 1, 2, 1, 2, 3, 1, 3, 4, 1, 4, 5, 1, 5, 6, 1);
        check.due("7 nodes", x.boundedSet(2), 63);
        check.due("7 nodes", x.bounded(2), 6);
        x.node();
        x.arc(6, 7, 1);
        check.due("8 nodes", x.boundedSet(2), -4);
        check.due("8 nodes", x.bounded(2), -4);
        x.clear();
        check.due("no node again", x.bounded(2), 0);
    }

    private static void arcsAtEachNode() {
        check.sentence("those that have at most d ARCS at each NODE");
        for (int middle = 0; middle < 7; middle++) {
            RootedTrees x = Check.graph(7);
            for (int node = 0; node < 7; node++) {
                x.arc(node, middle, 2);
            }
            for (int d = 0; d < 10; d++) {
                check.due("star around " + middle + " by " + d, x.bounded(d), d < 6 ? -3 : 12);
                check.due("star around " + middle + " by " + d, x.boundedSet(d), d < 6 ? -3 : 63);
            }
            x.arc(middle == 0 ? 1 : 0, middle == 6 ? 5 : 6, 3);
            check.due("one arc less in the middle", x.bounded(5), 13);
            check.due("not two less", x.bounded(4), -3);
        }
    }

    private static void justOneArcToEachNode() {
        check.sentence("each other NODE has just one ARC to it, and the root none");
        RootedTrees x = Check.graph(3, 1, 0, 0, 2, 0, 0, 0, 1, 9, 0, 1, 8, 2, 1, 1, 0, 2, 5, 1, 2, 0);
        check.due("rooted", x.rooted(0), 6);
        check.due("to node 1", x.rootedArc(0, 1), 4);
        check.due("to node 2", x.rootedArc(0, 2), 5);
        check.due("to the root", x.rootedArc(0, 0), -3);
        check.due("a node alone is its own tree", Check.graph(1).rooted(0), 0);
    }

    private static void leastArcToNodeZero() {
        check.sentence("the one that has the least ARC to NODE 0 (if this is not the root)");
        for (int root = 1; root < 10; root++) {
            RootedTrees x = swapped(root, 0, root == 1 ? 2 : 1);
            check.due("to node 0 from root " + root, x.rootedArc(root, 0), 0);
        }
        RootedTrees y = swapped(0, 1, 2);
        check.due("node 0 is the root", y.rootedArc(0, 0), -3);
        check.due("then node 1 is first", y.rootedArc(0, 1), 0);
        check.due("and node 2 comes after", y.rootedArc(0, 2), 3);
    }

    private static void leastArcToNodesInOrder() {
        check.sentence("of these to NODE 1, and so on");
        for (int root = 0; root < 10; root++) {
            for (int a = 0; a < 10; a++) {
                for (int b = a + 1; b < 10; b++) {
                    if (a != root && b != root) {
                        RootedTrees x = swapped(root, a, b);
                        check.due("root " + root + ", to " + a + " ahead of " + b, x.rootedArc(root, a), 0);
                        check.due("root " + root + ", to " + b + " behind " + a, x.rootedArc(root, b), 3);
                        check.due("rooted", x.rooted(root), 36);
                    }
                }
            }
        }
    }

    /** Both a and b would have their least arc from each other: only one of them can. */
    private static RootedTrees swapped(int root, int a, int b) {
        RootedTrees x = Check.graph(10, b, a, 4, a, b, 4, root, a, 4, root, b, 4);
        for (int node = 0; node < 10; node++) {
            if (node != a && node != b) {
                x.arc(root, node, 4);
            }
        }
        return x;
    }

    private static void allEndsHangTogether() {
        check.sentence("JOINED for ENDS (some NODES, as bits): a SET by which all ENDS hang together");
        RootedTrees x = Check.graph(10, 9, 0, 1000, 0, 5, 1);
        for (int node = 0; node < 10; node++) {
            check.due("one end", x.joinedSet(1 << node), 0);
            check.due("one end", x.joined(1 << node), 0);
        }
        check.due("the least and the greatest node", x.joined(513), 1000);
        check.due("three ends", x.joinedSet(513 | 32), 3);
        check.due("over a node that is no end", x.joinedSet(512 | 32), 3);
        check.due("all nodes", x.joinedSet(1023), -3);
    }

    private static void fewestArcs() {
        check.sentence("THE JOINED one has the least WEIGHT, of these the fewest ARCS");
        RootedTrees x = Check.graph(3, 0, 1, 0, 1, 2, 0, 2, 0, 0);
        check.due("one end needs no arc of weight 0", x.joinedSet(1), 0);
        check.due("one arc of weight 0, not two", x.joinedSet(5), Check.bits(2));
        x.change(2, 1);
        check.due("less weight ahead of fewer arcs", x.joinedSet(5), Check.bits(0, 1));
        RootedTrees y = Check.graph(10);
        for (int i = 1; i < 10; i++) {
            y.arc(i - 1, i, i == 9 ? 1000 : 0);
        }
        y.arc(0, 9, 1000);
        check.due("one arc ahead of nine", y.joinedSet(513), Check.bits(9));
        y.change(9, 999);
        check.due("one lighter arc", y.joinedSet(513), Check.bits(9));
        y.change(8, 998);
        check.due("nine lighter arcs", y.joinedSet(513), 511);
    }
}
