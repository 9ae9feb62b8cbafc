/** Promises 1 to 6: a new object, node, arc, change, drop, clear. */
public final class StateTest {
    private static final Check check = new Check();

    public static void main(String[] args) {
        newObject();
        nodes();
        arcs();
        arcRefusals();
        noRoomForArcs();
        change();
        drop();
        clear();
        refusalsChangeNothing();
        objectsAreApart();
        check.end("StateTest");
    }

    private static void newObject() {
        RootedTrees x = new RootedTrees();
        check.due("parts of a new object", x.parts(), 0);
        check.due("least of a new object", x.least(), 0);
        check.due("drop of a new object", x.drop(0), -1);
        check.due("clear of a new object", x.clear(), 0);
        check.due("first node", x.node(), 0);
    }

    private static void nodes() {
        RootedTrees x = new RootedTrees();
        for (int i = 0; i < 10; i++) {
            check.due("node", x.node(), i);
        }
        check.due("node 10", x.node(), -4);
        check.due("node 10 again", x.node(), -4);
        check.due("parts", x.parts(), 10);
    }

    private static void arcs() {
        RootedTrees x = Check.graph(3);
        check.due("arc", x.arc(0, 1, 0), 0);
        check.due("arc alike", x.arc(0, 1, 0), 1);
        check.due("arc back", x.arc(1, 0, 1000), 2);
        check.due("arc on", x.arc(2, 1, 7), 3);
        check.due("weights", x.change(2, 5), 1000);
        check.due("way of the arc", x.unreached(2), 0);
        check.due("way of the arc", x.unreached(0), 4);
    }

    private static void arcRefusals() {
        RootedTrees x = Check.graph(2);
        check.due("no such from", x.arc(2, 0, 1), -1);
        check.due("no such to", x.arc(0, 2, 1), -1);
        check.due("from below 0", x.arc(-1, 0, 1), -1);
        check.due("to below 0", x.arc(0, -1, 1), -1);
        check.due("from far off", x.arc(Integer.MIN_VALUE, 0, 1), -1);
        check.due("to far off", x.arc(0, Integer.MAX_VALUE, 1), -1);
        check.due("both the same", x.arc(1, 1, 1), -1);
        check.due("weight below 0", x.arc(0, 1, -1), -2);
        check.due("weight too great", x.arc(0, 1, 1001), -2);
        check.due("weight far off", x.arc(0, 1, Integer.MIN_VALUE), -2);
        check.due("-1 ahead of -2", x.arc(0, 0, 1001), -1);
        check.due("the number is not used up", x.arc(0, 1, 1000), 0);
    }

    private static void noRoomForArcs() {
        RootedTrees x = Check.graph(2);
        for (int i = 0; i < 30; i++) {
            check.due("arc", x.arc(i % 2, 1 - i % 2, i), i);
        }
        check.due("arc 30", x.arc(0, 1, 5), -4);
        check.due("-1 ahead of -4", x.arc(0, 0, 5), -1);
        check.due("-2 ahead of -4", x.arc(0, 1, 1001), -2);
        check.due("drop", x.drop(29), 29);
        check.due("dropped arcs are counted", x.arc(0, 1, 5), -4);
        check.due("drop the rest", x.drop(0), 28);
        check.due("least", x.least(), 1);
        check.due("leastSet", x.leastSet(), 2);
        check.due("clear makes room", x.clear(), 2);
        x.node();
        x.node();
        check.due("arc after clear", x.arc(0, 1, 5), 0);
    }

    private static void change() {
        RootedTrees x = Check.graph(3, 0, 1, 5, 1, 2, 6, 2, 0, 7);
        check.due("least", x.least(), 11);
        check.due("change", x.change(2, 0), 7);
        check.due("least after", x.least(), 5);
        check.due("leastSet after", x.leastSet(), Check.bits(0, 2));
        check.due("change to the same", x.change(2, 0), 0);
        check.due("change to most", x.change(0, 1000), 5);
        check.due("leastSet after", x.leastSet(), Check.bits(1, 2));
        check.due("no such arc", x.change(3, 1), -1);
        check.due("arc below 0", x.change(-1, 1), -1);
        check.due("arc far off", x.change(Integer.MAX_VALUE, 1), -1);
        check.due("arc 64 is not arc 0", x.change(64, 1), -1);
        check.due("weight below 0", x.change(0, -1), -2);
        check.due("weight too great", x.change(0, 1001), -2);
        check.due("-1 ahead of -2", x.change(3, 1001), -1);
        check.due("refused changes change nothing", x.change(0, 3), 1000);
        x.drop(1);
        check.due("dropped arc", x.change(1, 1), -1);
    }

    private static void drop() {
        RootedTrees x = Check.graph(3, 0, 1, 5, 1, 2, 6, 2, 0, 7);
        check.due("drop", x.drop(1), 2);
        check.due("drop again", x.drop(1), -1);
        check.due("no such arc", x.drop(3), -1);
        check.due("arc below 0", x.drop(-1), -1);
        check.due("arc far off", x.drop(Integer.MIN_VALUE), -1);
        check.due("leastSet", x.leastSet(), Check.bits(0, 2));
        check.due("a number does not come again", x.arc(1, 2, 1), 3);
        check.due("leastSet", x.leastSet(), Check.bits(0, 3));
        check.due("drop", x.drop(0), 2);
        check.due("drop", x.drop(2), 1);
        check.due("parts", x.parts(), 2);
        check.due("drop the last", x.drop(3), 0);
        check.due("parts", x.parts(), 3);
    }

    private static void clear() {
        RootedTrees x = Check.graph(3, 0, 1, 5, 1, 2, 6);
        check.due("clear", x.clear(), 3);
        check.due("clear again", x.clear(), 0);
        check.due("parts", x.parts(), 0);
        check.due("judge", x.judge(1), 1);
        check.due("change", x.change(0, 1), -1);
        check.due("height", x.height(0, 0), -1);
        check.due("node", x.node(), 0);
        check.due("node", x.node(), 1);
        check.due("no arcs", x.parts(), 2);
        check.due("arc", x.arc(1, 0, 3), 0);
        check.due("least", x.least(), 3);
    }

    private static void refusalsChangeNothing() {
        RootedTrees x = Check.graph(3, 0, 1, 5, 1, 2, 6);
        x.arc(0, 3, 1);
        x.arc(0, 2, -1);
        x.change(0, 2000);
        x.change(5, 1);
        x.drop(2);
        x.swap(9);
        x.bounded(-1);
        x.joined(8);
        check.due("least", x.least(), 11);
        check.due("leastSet", x.leastSet(), 3);
        check.due("arc", x.arc(0, 2, 1), 2);
        check.due("node", x.node(), 3);
    }

    private static void objectsAreApart() {
        RootedTrees x = Check.graph(3, 0, 1, 5);
        RootedTrees y = Check.graph(2, 1, 0, 4);
        check.due("least of one", x.least(), 5);
        check.due("least of the other", y.least(), 4);
        check.due("clear of one", x.clear(), 3);
        check.due("least of the other", y.least(), 4);
    }
}
