import java.util.List;
import java.util.function.Supplier;
import java.util.function.ToLongFunction;

/** Counts and prints answers that are not the ones that are due. */
final class Check {
    private int made;
    private int wrong;
    private String sentence = "";
    private int madeBeforeSentence;
    private int sentences;

    /** What is looked at from now on is the test of these words of the document. */
    void sentence(String words) {
        endSentence();
        sentence = words + " | ";
        madeBeforeSentence = made;
        sentences++;
    }

    void due(String call, long got, long want) {
        made++;
        if (got != want) {
            tellWrong(sentence + call + " answered " + got + ", due is " + want);
        }
    }

    /** A refused call: its answer, and that all that can be seen is as if it had not been. */
    void refused(String call, Supplier<RootedTrees> graph, ToLongFunction<RootedTrees> asked, long want) {
        RootedTrees x = graph.get();
        due(call, asked.applyAsLong(x), want);
        due(call + " again", asked.applyAsLong(x), want);
        alike(call + " changes nothing", x, graph.get());
    }

    /** Uses both objects up. */
    void alike(String what, RootedTrees x, RootedTrees y) {
        List<String> some = Answers.of(x);
        List<String> others = Answers.of(y);
        due(what + ", number of answers", some.size(), others.size());
        for (int i = 0; i < Math.min(some.size(), others.size()); i++) {
            made++;
            if (!some.get(i).equals(others.get(i))) {
                tellWrong(sentence + what + ": " + some.get(i) + ", due is " + others.get(i));
            }
        }
    }

    /** Ends the program, with exit code 1 if there was a wrong answer or none was looked at. */
    void end(String name) {
        endSentence();
        String tested = sentences == 0 ? "" : sentences + " sentences, ";
        System.out.println(name + ": " + tested + made + " answers, " + wrong + " wrong");
        System.exit(wrong == 0 && made > 0 ? 0 : 1);
    }

    private void endSentence() {
        if (sentences > 0 && made == madeBeforeSentence) {
            tellWrong(sentence + "nothing was looked at");
        }
    }

    private void tellWrong(String words) {
        wrong++;
        if (wrong <= 50) {
            System.out.println(words);
        }
    }

    /** A graph with so many nodes and the arcs told as from, to, weight. */
    static RootedTrees graph(int nodes, int... arcs) {
        RootedTrees x = new RootedTrees();
        for (int i = 0; i < nodes; i++) {
            x.node();
        }
        for (int i = 0; i + 2 < arcs.length; i += 3) {
            x.arc(arcs[i], arcs[i + 1], arcs[i + 2]);
        }
        return x;
    }

    /** Uses up so many numbers of arcs; the graph has two nodes or more. */
    static void skip(int many, RootedTrees x) {
        for (int i = 0; i < many; i++) {
            x.drop(x.arc(0, 1, 0));
        }
    }

    static long bits(int... numbers) {
        long set = 0;
        for (int number : numbers) {
            set |= 1L << number;
        }
        return set;
    }
}
