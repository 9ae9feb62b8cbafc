/** What promises 1 to 6 say of boundary cases: a test for each sentence. */
public final class StateBoundaryTest {
    private static final Check check = new Check();

    public static void main(String[] args) {
        newObject();
        nodeNumber();
        nodeNoRoom();
        arcNumber();
        arcNoSuchNodes();
        arcBothTheSame();
        arcOutside();
        arcNoRoom();
        changeWhatItWas();
        changeNoSuchArc();
        changeOutside();
        dropHowManyThereAre();
        dropNoSuchArc();
        clearNodesAndArcs();
        clearNumbersFromZero();
        clearHowManyThereWere();
        check.end("StateBoundaryTest");
    }

    /** Full of nodes and of arcs, that lead from each node to the next three. */
    private static RootedTrees full() {
        RootedTrees x = Check.graph(10);
        for (int i = 0; i < 30; i++) {
            x.arc(i % 10, (i + 1 + i / 10) % 10, i);
        }
        return x;
    }

    private static void newObject() {
        check.sentence("Promise 1: No NODES");
        check.due("parts", new RootedTrees().parts(), 0);
        check.due("least", new RootedTrees().least(), 0);
        check.due("leastSet", new RootedTrees().leastSet(), 0);
        check.due("ties", new RootedTrees().ties(), 1);
        check.due("next", new RootedTrees().next(), -3);
        check.due("swap", new RootedTrees().swap(1), -3);
        check.due("judge of nothing", new RootedTrees().judge(0), 0);
        check.due("judge of arc 0", new RootedTrees().judge(1), 1);
        check.due("height", new RootedTrees().height(0, 0), -1);
        check.due("bounded", new RootedTrees().bounded(0), 0);
        check.due("boundedSet", new RootedTrees().boundedSet(9), 0);
        check.due("rooted", new RootedTrees().rooted(0), -1);
        check.due("rootedArc", new RootedTrees().rootedArc(0, 0), -1);
        check.due("unreached", new RootedTrees().unreached(0), -1);
        check.due("joined", new RootedTrees().joined(1), -2);
        check.due("joinedSet", new RootedTrees().joinedSet(1), -2);
        check.due("arc", new RootedTrees().arc(0, 1, 0), -1);
        check.due("change", new RootedTrees().change(0, 0), -1);
        check.due("drop", new RootedTrees().drop(0), -1);
        check.due("clear", new RootedTrees().clear(), 0);
        check.due("node", new RootedTrees().node(), 0);
        RootedTrees used = full();
        check.alike("made beside one that is full", new RootedTrees(), new RootedTrees());
        check.alike("which stays as it is", used, full());
    }

    private static void nodeNumber() {
        check.sentence("Promise 2: A NODE more: its number");
        RootedTrees x = new RootedTrees();
        for (int i = 0; i < 10; i++) {
            check.due("parts before", x.parts(), i);
            check.due("arc to it before", x.arc(0, i, 1001), -1);
            check.due("node", x.node(), i);
            check.due("parts after", x.parts(), i + 1);
            check.due("arc to it after", x.arc(0, i, 1001), i == 0 ? -1 : -2);
            check.due("it has no arcs", x.unreached(i), (1 << i) - 1);
        }
        RootedTrees y = Check.graph(2, 0, 1, 5);
        y.drop(0);
        check.due("dropped arcs change no node's number", y.node(), 2);
    }

    private static void nodeNoRoom() {
        check.sentence("Promise 2: -4");
        check.refused("the 11th", () -> Check.graph(10), x -> x.node(), -4);
        check.refused("the 11th, with arcs", StateBoundaryTest::full, x -> x.node(), -4);
        check.due("the 10th is no refusal", Check.graph(9).node(), 9);
        RootedTrees x = full();
        x.drop(0);
        check.due("a dropped arc makes no room", x.node(), -4);
        x.clear();
        for (int i = 0; i < 10; i++) {
            check.due("clear makes room", x.node(), i);
        }
        check.due("the 11th after clear", x.node(), -4);
    }

    private static void arcNumber() {
        check.sentence("Promise 3: An ARC more: its number");
        for (int from = 0; from < 10; from++) {
            RootedTrees x = Check.graph(10);
            int number = 0;
            for (int to = 0; to < 10; to++) {
                if (to != from) {
                    check.due("arc", x.arc(from, to, 1000), number);
                    check.due("the arc leads there", x.unreached(from) >> to & 1, 0);
                    check.due("its weight", x.height(from, to), 1000);
                    number++;
                }
            }
            check.due("all", x.leastSet(), 511);
        }
        RootedTrees full = full();
        check.due("all 30 are there", full.judge((1L << 30) - 1), 2);
        check.due("the last one's weight", full.change(29, 0), 29);
    }

    private static void arcNoSuchNodes() {
        check.sentence("Promise 3: -1 no such NODES");
        for (int nodes = 1; nodes < 10; nodes += 4) {
            int many = nodes;
            int[] wrong = {many, many + 1, -1, 10, 32, Integer.MIN_VALUE, Integer.MAX_VALUE};
            for (int node : wrong) {
                check.refused("from " + node, () -> Check.graph(many), x -> x.arc(node, 0, 1), -1);
                check.refused("to " + node, () -> Check.graph(many), x -> x.arc(0, node, 1), -1);
                check.refused("both " + node, () -> Check.graph(many), x -> x.arc(node, node, 1), -1);
            }
            check.refused("two that there are not", () -> Check.graph(many), x -> x.arc(many, many + 1, 1), -1);
        }
        check.refused("the first without nodes", RootedTrees::new, x -> x.arc(0, 1, 1), -1);
    }

    private static void arcBothTheSame() {
        check.sentence("Promise 3: -1 both are the same");
        check.refused("one node", () -> Check.graph(1), x -> x.arc(0, 0, 1), -1);
        check.refused("the first", StateBoundaryTest::full, x -> x.arc(0, 0, 1), -1);
        check.refused("the last", () -> Check.graph(10), x -> x.arc(9, 9, 1), -1);
    }

    private static void arcOutside() {
        check.sentence("Promise 3: -2");
        int[] wrong = {-1, 1001, -1000, 2000, 1 << 16, (1 << 16) + 1, Integer.MIN_VALUE, Integer.MAX_VALUE};
        for (int weight : wrong) {
            check.refused("weight " + weight, () -> Check.graph(2, 1, 0, 5), x -> x.arc(0, 1, weight), -2);
        }
        check.due("0 is no refusal", Check.graph(2).arc(0, 1, 0), 0);
        check.due("1000 is no refusal", Check.graph(2).arc(0, 1, 1000), 0);
    }

    private static void arcNoRoom() {
        check.sentence("Promise 3: -4");
        check.refused("the 31st", StateBoundaryTest::full, x -> x.arc(0, 9, 1), -4);
        RootedTrees x = Check.graph(2);
        Check.skip(29, x);
        check.due("the 30th is no refusal", x.arc(0, 1, 5), 29);
        check.due("the 31st", x.arc(0, 1, 5), -4);
        check.due("drop", x.drop(29), 0);
        check.due("none is there, but no room", x.arc(0, 1, 5), -4);
        check.due("parts", x.parts(), 2);
    }

    private static void changeWhatItWas() {
        check.sentence("Promise 4: An ARC's WEIGHT: what it was");
        RootedTrees x = Check.graph(2, 0, 1, 0);
        check.due("from 0 to 1000", x.change(0, 1000), 0);
        check.due("least", x.least(), 1000);
        check.due("from 1000 to 1000", x.change(0, 1000), 1000);
        check.due("from 1000 to 0", x.change(0, 0), 1000);
        check.due("least", x.least(), 0);
        check.due("from 0 to 0", x.change(0, 0), 0);
        RootedTrees full = full();
        for (int arc = 0; arc < 30; arc++) {
            check.due("the others keep theirs", full.change(arc, 1000 - arc), arc);
        }
        for (int arc = 29; arc >= 0; arc--) {
            check.due("and are what they became", full.change(arc, arc), 1000 - arc);
        }
        check.alike("changed to and fro", full, full());
    }

    private static RootedTrees dropped() {
        RootedTrees x = Check.graph(3, 0, 1, 5, 1, 2, 6, 2, 0, 7);
        x.drop(1);
        return x;
    }

    private static void changeNoSuchArc() {
        check.sentence("Promise 4: -1");
        int[] wrong = {1, 3, -1, 29, 30, 32, 64, 66, Integer.MIN_VALUE, Integer.MAX_VALUE};
        for (int arc : wrong) {
            check.refused("arc " + arc, StateBoundaryTest::dropped, x -> x.change(arc, 1), -1);
        }
        check.refused("arc 0 without arcs", () -> Check.graph(2), x -> x.change(0, 1), -1);
    }

    private static void changeOutside() {
        check.sentence("Promise 4: -2");
        int[] wrong = {-1, 1001, -1000, 2000, 1 << 16, Integer.MIN_VALUE, Integer.MAX_VALUE};
        for (int weight : wrong) {
            check.refused("weight " + weight, StateBoundaryTest::dropped, x -> x.change(0, weight), -2);
        }
    }

    private static void dropHowManyThereAre() {
        check.sentence("Promise 5: An ARC is no more: how many there are");
        RootedTrees x = full();
        for (int i = 0; i < 30; i++) {
            int arc = i * 7 % 30;
            check.due("drop " + arc, x.drop(arc), 29 - i);
            check.due("it is no arc", x.judge(1L << arc), 1);
        }
        check.due("none is left", x.parts(), 10);
        check.due("least", x.least(), 0);
        RootedTrees y = dropped();
        y.arc(0, 1, 0);
        check.due("those that came later are counted", y.drop(0), 2);
        check.due("those that were dropped are not", y.drop(2), 1);
        check.due("the last", y.drop(3), 0);
    }

    private static void dropNoSuchArc() {
        check.sentence("Promise 5: -1");
        int[] wrong = {1, 3, -1, 29, 30, 32, 64, 66, Integer.MIN_VALUE, Integer.MAX_VALUE};
        for (int arc : wrong) {
            check.refused("arc " + arc, StateBoundaryTest::dropped, x -> x.drop(arc), -1);
        }
        check.refused("arc 0 without arcs", () -> Check.graph(2), x -> x.drop(0), -1);
    }

    private static void clearNodesAndArcs() {
        check.sentence("Promise 6: No NODES, no ARCS any more");
        RootedTrees x = full();
        x.clear();
        check.alike("cleared when full", x, new RootedTrees());
        RootedTrees y = full();
        y.clear();
        for (int i = 0; i < 10; i++) {
            y.node();
        }
        check.alike("the new nodes have none of the old arcs", y, Check.graph(10));
        RootedTrees z = new RootedTrees();
        z.clear();
        check.alike("cleared when empty", z, new RootedTrees());
    }

    private static void clearNumbersFromZero() {
        check.sentence("Promise 6: both are numbered from 0 again");
        RootedTrees x = full();
        x.clear();
        for (int i = 0; i < 10; i++) {
            check.due("node", x.node(), i);
        }
        for (int i = 0; i < 30; i++) {
            check.due("arc", x.arc(i % 10, (i + 1 + i / 10) % 10, i), i);
        }
        check.due("full again", x.node(), -4);
        check.due("full again", x.arc(0, 1, 1), -4);
        check.alike("as if it had been made so", x, full());
        RootedTrees y = dropped();
        y.clear();
        y.node();
        y.node();
        check.due("arc after a dropped one", y.arc(0, 1, 3), 0);
        check.due("a number dropped before is there", y.arc(1, 0, 2), 1);
        check.due("leastSet", y.leastSet(), Check.bits(1));
    }

    private static void clearHowManyThereWere() {
        check.sentence("Promise 6: how many NODES there were");
        for (int nodes = 0; nodes <= 10; nodes++) {
            RootedTrees x = Check.graph(nodes, 0, 1, 5);
            check.due("clear", x.clear(), nodes);
            check.due("clear again", x.clear(), 0);
        }
        RootedTrees full = Check.graph(10);
        full.node();
        check.due("a refused node is not counted", full.clear(), 10);
    }
}
