/** Promises 15 and 16: bounded, boundedSet. */
public final class BoundedTest {
    private static final Check check = new Check();

    public static void main(String[] args) {
        few();
        star();
        firstOfSeveral();
        refusals();
        check.end("BoundedTest");
    }

    private static void both(RootedTrees x, int d, long weight, long set) {
        check.due("bounded " + d, x.bounded(d), weight);
        check.due("boundedSet " + d, x.boundedSet(d), set);
    }

    private static void few() {
        both(new RootedTrees(), 0, 0, 0);
        both(new RootedTrees(), 9, 0, 0);
        both(Check.graph(1), 0, 0, 0);
        RootedTrees pair = Check.graph(2, 0, 1, 8, 1, 0, 3, 0, 1, 3);
        both(pair, 0, -3, -3);
        both(pair, 1, 3, 2);
        both(pair, 9, 3, 2);
    }

    private static void star() {
        RootedTrees x = Check.graph(5, 0, 1, 1, 0, 2, 1, 0, 3, 1, 4, 0, 1, 1, 2, 10, 2, 3, 20, 3, 4, 30, 1, 3, 15);
        both(x, 0, -3, -3);
        both(x, 1, -3, -3);
        both(x, 2, 27, Check.bits(1, 3, 4, 7));
        both(x, 3, 13, Check.bits(0, 2, 3, 4));
        both(x, 4, 4, Check.bits(0, 1, 2, 3));
        both(x, 9, 4, Check.bits(0, 1, 2, 3));
        x.drop(0);
        both(x, 4, 13, Check.bits(1, 2, 3, 4));
    }

    private static void firstOfSeveral() {
        RootedTrees x = Check.graph(4, 3, 0, 2, 3, 1, 2, 3, 2, 2, 0, 1, 2, 1, 2, 2, 2, 0, 2);
        both(x, 3, 6, Check.bits(0, 1, 2));
        both(x, 2, 6, Check.bits(0, 1, 4));
        x.change(4, 3);
        both(x, 2, 6, Check.bits(0, 1, 5));
        x.change(4, 2);
        x.drop(0);
        both(x, 2, 6, Check.bits(1, 2, 3));
    }

    private static void refusals() {
        RootedTrees x = Check.graph(7, 0, 1, 1);
        both(x, -1, -2, -2);
        both(x, 10, -2, -2);
        both(x, Integer.MIN_VALUE, -2, -2);
        both(x, Integer.MAX_VALUE, -2, -2);
        both(x, 3, -3, -3);
        both(x, 0, -3, -3);
        x.node();
        both(x, 3, -4, -4);
        both(x, 10, -2, -2);
        x.clear();
        both(x, 3, 0, 0);
        both(Check.graph(8, 0, 1, 1), 0, -4, -4);
        both(Check.graph(10), 9, -4, -4);
    }
}
