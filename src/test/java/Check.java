/** Counts and prints answers that are not the ones that are due. */
final class Check {
    private int made;
    private int wrong;

    void due(String call, long got, long want) {
        made++;
        if (got != want) {
            wrong++;
            if (wrong <= 50) {
                System.out.println(call + " answered " + got + ", due is " + want);
            }
        }
    }

    /** Ends the program, with exit code 1 if there was a wrong answer or none was looked at. */
    void end(String name) {
        System.out.println(name + ": " + made + " answers, " + wrong + " wrong");
        System.exit(wrong == 0 && made > 0 ? 0 : 1);
    }

    /** A graph with so many nodes and the arcs told as from, to, weight. */
    static RootedTrees graph(int nodes, int... arcs) {
        RootedTrees x = new RootedTrees();
        for (int i = 0; i < nodes; i++) {
            x.node();
        }
        for (int i = 0; i + 2 < arcs.length; i += 3) {
            x.arc(arcs[i], arcs[i + 1], arcs[i + 2]);
        }
        return x;
    }

    static long bits(int... numbers) {
        long set = 0;
        for (int number : numbers) {
            set |= 1L << number;
        }
        return set;
    }
}
