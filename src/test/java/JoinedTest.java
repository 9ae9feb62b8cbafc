/** Promises 20 and 21: joined, joinedSet. */
public final class JoinedTest {
    private static final Check check = new Check();

    public static void main(String[] args) {
        few();
        middle();
        fewestArcs();
        firstOfSeveral();
        refusals();
        check.end("JoinedTest");
    }

    private static void both(RootedTrees x, int ends, long weight, long set) {
        check.due("joined " + ends, x.joined(ends), weight);
        check.due("joinedSet " + ends, x.joinedSet(ends), set);
    }

    private static void few() {
        both(Check.graph(1), 1, 0, 0);
        both(Check.graph(2), 2, 0, 0);
        RootedTrees x = Check.graph(2, 0, 1, 1000, 1, 0, 999);
        both(x, 1, 0, 0);
        both(x, 3, 999, 2);
        x.drop(1);
        both(x, 3, 1000, 1);
    }

    /** A node that is no end is worth the way over it, as arcs lead or not. */
    private static void middle() {
        RootedTrees x = Check.graph(4, 0, 1, 10, 1, 2, 10, 2, 0, 10, 0, 3, 6, 3, 1, 6, 2, 3, 6);
        both(x, 7, 18, Check.bits(3, 4, 5));
        both(x, 3, 10, Check.bits(0));
        both(x, 15, 18, Check.bits(3, 4, 5));
        x.change(5, 9);
        both(x, 7, 20, Check.bits(0, 1));
    }

    private static void fewestArcs() {
        RootedTrees x = Check.graph(4, 0, 1, 0, 1, 2, 0, 2, 3, 0, 0, 3, 0, 1, 3, 0);
        both(x, ends(0, 3), 0, Check.bits(3));
        x.drop(3);
        both(x, ends(0, 3), 0, Check.bits(0, 4));
        RootedTrees y = Check.graph(3, 0, 1, 3, 1, 2, 4, 0, 2, 7);
        both(y, ends(0, 2), 7, Check.bits(2));
        y.change(2, 8);
        both(y, ends(0, 2), 7, Check.bits(0, 1));
    }

    private static int ends(int... nodes) {
        return (int) Check.bits(nodes);
    }

    private static void firstOfSeveral() {
        RootedTrees x = Check.graph(4, 3, 1, 5, 0, 2, 5, 1, 0, 5, 2, 3, 5);
        both(x, ends(0, 3), 10, Check.bits(0, 2));
        both(x, 15, 15, Check.bits(0, 1, 2));
        x.change(0, 4);
        x.change(3, 4);
        both(x, ends(0, 3), 9, Check.bits(0, 2));
        RootedTrees y = Check.graph(2, 0, 1, 6, 0, 1, 5, 1, 0, 5);
        both(y, 3, 5, Check.bits(1));
    }

    private static void refusals() {
        RootedTrees x = Check.graph(3, 0, 1, 5);
        int[] wrong = {0, 8, 9, 15, -1, 1 << 10, 1 << 30, Integer.MIN_VALUE, Integer.MIN_VALUE + 1, Integer.MAX_VALUE};
        for (int ends : wrong) {
            both(x, ends, -2, -2);
        }
        both(x, 5, -3, -3);
        both(x, 7, -3, -3);
        both(x, 4, 0, 0);
        both(new RootedTrees(), 0, -2, -2);
        both(new RootedTrees(), 1, -2, -2);
        both(Check.graph(10), 1023, -3, -3);
        both(Check.graph(10), 1024, -2, -2);
    }
}
