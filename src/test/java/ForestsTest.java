/** Promises 7 to 14: parts, least, leastSet, ties, next, swap, judge, height. */
public final class ForestsTest {
    private static final Check check = new Check();

    public static void main(String[] args) {
        parts();
        least();
        firstOfSeveral();
        ties();
        knownCounts();
        next();
        nextOfSeveral();
        nextRefusals();
        judge();
        judgeOrder();
        height();
        check.end("ForestsTest");
    }

    private static void parts() {
        check.due("parts without nodes", new RootedTrees().parts(), 0);
        check.due("parts without arcs", Check.graph(4).parts(), 4);
        check.due("parts", Check.graph(5, 3, 1, 0, 4, 1, 0).parts(), 3);
        check.due("parts of a ring", Check.graph(3, 0, 1, 1, 1, 2, 1, 2, 0, 1).parts(), 1);
        RootedTrees x = Check.graph(2, 1, 0, 9);
        check.due("parts", x.parts(), 1);
        x.drop(0);
        check.due("parts after drop", x.parts(), 2);
    }

    private static void least() {
        check.due("least without nodes", new RootedTrees().least(), 0);
        check.due("leastSet without nodes", new RootedTrees().leastSet(), 0);
        RootedTrees x = Check.graph(6, 0, 1, 9, 1, 2, 3, 2, 0, 4, 3, 4, 8, 4, 3, 6);
        check.due("least of several parts", x.least(), 13);
        check.due("leastSet of several parts", x.leastSet(), Check.bits(1, 2, 4));
        RootedTrees path = new RootedTrees();
        path.node();
        for (int i = 1; i < 10; i++) {
            path.node();
            path.arc(i, i - 1, 1000);
        }
        check.due("greatest least", path.least(), 9000);
        check.due("its set", path.leastSet(), 511);
    }

    private static void firstOfSeveral() {
        RootedTrees x = Check.graph(3, 2, 0, 4, 1, 2, 4, 0, 1, 4, 0, 1, 4);
        check.due("first of several", x.leastSet(), Check.bits(0, 1));
        x.change(0, 5);
        check.due("first of several", x.leastSet(), Check.bits(1, 2));
        x.drop(2);
        check.due("first of several", x.leastSet(), Check.bits(1, 3));
        x.change(0, 4);
        check.due("first of several again", x.leastSet(), Check.bits(0, 1));
    }

    private static void ties() {
        check.due("ties without nodes", new RootedTrees().ties(), 1);
        check.due("ties without arcs", Check.graph(3).ties(), 1);
        check.due("ties of one weight", Check.graph(2, 0, 1, 3, 1, 0, 3, 0, 1, 4).ties(), 2);
        check.due("ties of two parts", Check.graph(5, 0, 1, 3, 1, 0, 3, 2, 3, 1, 3, 4, 1, 4, 2, 1).ties(), 6);
        check.due("heavier arcs do not count", Check.graph(3, 0, 1, 1, 1, 2, 2, 0, 2, 3).ties(), 1);
        RootedTrees x = Check.graph(4, 0, 1, 1, 1, 0, 1, 0, 2, 5, 1, 2, 5, 2, 3, 0, 3, 0, 5);
        check.due("ties of two weights", x.ties(), 6);
        x.drop(3);
        check.due("ties without a dropped one", x.ties(), 4);
    }

    private static void knownCounts() {
        RootedTrees full = Check.graph(7);
        for (int a = 0; a < 7; a++) {
            for (int b = 0; b < a; b++) {
                full.arc(a, b, 6);
            }
        }
        check.due("ties, 7 nodes each with each", full.ties(), 16807);
        RootedTrees halves = Check.graph(10);
        for (int a = 0; a < 5; a++) {
            for (int b = 5; b < 10; b++) {
                halves.arc(a, b, 0);
            }
        }
        check.due("ties, 5 nodes with 5 others", halves.ties(), 390625);
        RootedTrees petersen = Check.graph(10);
        for (int twice = 0; twice < 2; twice++) {
            for (int i = 0; i < 5; i++) {
                petersen.arc(i, (i + 1) % 5, 1000);
                petersen.arc(i, i + 5, 1000);
                petersen.arc(i + 5, (i + 2) % 5 + 5, 1000);
            }
        }
        check.due("ties, Petersen's graph twice", petersen.ties(), 2000L * 512);
    }

    private static void next() {
        RootedTrees x = Check.graph(4, 0, 1, 2, 1, 2, 3, 2, 3, 4, 3, 0, 9, 0, 2, 5);
        check.due("leastSet", x.leastSet(), Check.bits(0, 1, 2));
        check.due("next", x.next(), 11);
        check.due("out", x.swap(0), 1);
        check.due("in", x.swap(1), 4);
        x.change(3, 5);
        check.due("next", x.next(), 10);
        check.due("out", x.swap(0), 2);
        check.due("in", x.swap(1), 3);
    }

    private static void nextOfSeveral() {
        RootedTrees x = Check.graph(4, 0, 1, 5, 1, 2, 5, 2, 3, 5, 3, 0, 5, 0, 2, 5);
        check.due("next as light", x.next(), 15);
        check.due("least in", x.swap(1), 3);
        check.due("least out", x.swap(0), 0);
        x.change(3, 8);
        check.due("next as light", x.next(), 15);
        check.due("in", x.swap(1), 4);
        check.due("out", x.swap(0), 0);
        RootedTrees y = Check.graph(5, 0, 1, 1, 3, 4, 5, 2, 3, 5, 4, 2, 7, 0, 1, 3);
        check.due("next", y.next(), 13);
        check.due("the least in of those as light", y.swap(1), 3);
        check.due("the least out of those as light", y.swap(0), 1);
        RootedTrees z = Check.graph(2, 0, 1, 0, 0, 1, 1000);
        check.due("next with the greatest rise", z.next(), 1000);
        check.due("its out", z.swap(0), 0);
        check.due("its in", z.swap(1), 1);
    }

    private static void nextRefusals() {
        check.due("next without nodes", new RootedTrees().next(), -3);
        RootedTrees x = Check.graph(3, 0, 1, 1, 1, 2, 1, 2, 0, 1);
        check.due("what below 0", x.swap(-1), -2);
        check.due("what too great", x.swap(2), -2);
        check.due("what far off", x.swap(Integer.MIN_VALUE), -2);
        x.drop(1);
        check.due("no other forest", x.next(), -3);
        check.due("no other forest", x.swap(0), -3);
        check.due("no other forest", x.swap(1), -3);
        check.due("-2 ahead of -3", x.swap(2), -2);
    }

    private static void judge() {
        RootedTrees x = Check.graph(5, 0, 1, 4, 1, 2, 6, 2, 0, 5, 1, 2, 3, 3, 4, 1);
        check.due("the least", x.judge(x.leastSet()), 0);
        check.due("beaten", x.judge(Check.bits(0, 1, 4)), 102);
        check.due("beaten by one only", x.judge(Check.bits(0, 2, 4)), 103);
        check.due("what is heavier does not beat", x.judge(Check.bits(0, 3, 4)), 0);
        check.due("beaten", x.judge(Check.bits(1, 2, 4)), 100);
        check.due("ring of two", x.judge(Check.bits(1, 3)), 2);
        check.due("ring of three", x.judge(Check.bits(0, 1, 2, 4)), 2);
        check.due("apart", x.judge(Check.bits(0, 3)), 3);
        check.due("nothing", x.judge(0), 3);
        check.due("no arc", x.judge(Check.bits(0, 3, 4, 5)), 1);
        x.change(2, 4);
        check.due("as light", x.judge(Check.bits(2, 3, 4)), 0);
        check.due("without nodes", new RootedTrees().judge(0), 0);
        check.due("without arcs", Check.graph(3).judge(0), 0);
    }

    private static void judgeOrder() {
        RootedTrees x = Check.graph(5, 0, 1, 1, 1, 0, 2, 2, 3, 3, 3, 4, 4);
        check.due("no arc ahead of a ring", x.judge(Check.bits(0, 1, 4)), 1);
        check.due("a ring ahead of apart", x.judge(Check.bits(0, 1)), 2);
        check.due("apart ahead of beaten", x.judge(Check.bits(1, 2)), 3);
        check.due("beaten", x.judge(Check.bits(1, 2, 3)), 100);
        check.due("bit 63", x.judge(Long.MIN_VALUE), 1);
        check.due("all bits", x.judge(-1), 1);
        check.due("bit 32 is not bit 0", x.judge(Check.bits(32, 2, 3)), 1);
        x.drop(0);
        check.due("a dropped arc", x.judge(Check.bits(0, 2, 3)), 1);
        check.due("a dropped arc beats nothing", x.judge(Check.bits(1, 2, 3)), 0);
    }

    private static void height() {
        RootedTrees x = Check.graph(5, 0, 1, 9, 1, 2, 3, 2, 0, 4, 3, 2, 7);
        check.due("height", x.height(0, 1), 4);
        check.due("height", x.height(1, 0), 4);
        check.due("height", x.height(1, 3), 7);
        check.due("height", x.height(1, 2), 3);
        check.due("height of the same", x.height(2, 2), 0);
        check.due("height of one alone", x.height(4, 4), 0);
        check.due("there is none", x.height(0, 4), -3);
        check.due("no such node", x.height(0, 5), -1);
        check.due("no such node", x.height(5, 0), -1);
        check.due("no such node", x.height(5, 5), -1);
        check.due("no such node", x.height(-1, 0), -1);
        check.due("no such node", x.height(0, Integer.MIN_VALUE), -1);
        x.drop(2);
        check.due("height after drop", x.height(0, 1), 9);
        x.change(0, 0);
        check.due("height 0", x.height(0, 1), 0);
    }
}
