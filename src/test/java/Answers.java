import java.util.ArrayList;
import java.util.List;

/** All that can be seen of an object, in fewer than 400 calls; it is used up by that. */
final class Answers {
    private final RootedTrees x;
    private final List<String> list = new ArrayList<>();

    private Answers(RootedTrees x) {
        this.x = x;
    }

    static List<String> of(RootedTrees x) {
        Answers answers = new Answers(x);
        answers.ofForests();
        answers.ofNodes();
        answers.ofBounds();
        answers.ofEnds();
        answers.ofChanges();
        return answers.list;
    }

    private void add(String call, long answer) {
        list.add(call + " answered " + answer);
    }

    private void ofForests() {
        add("parts", x.parts());
        add("least", x.least());
        add("leastSet", x.leastSet());
        add("ties", x.ties());
        add("next", x.next());
        add("swap 0", x.swap(0));
        add("swap 1", x.swap(1));
        add("judge of the least", x.judge(x.leastSet()));
        for (int arc = 0; arc < 30; arc++) {
            add("judge of arc " + arc, x.judge(1L << arc));
        }
    }

    private void ofNodes() {
        for (int a = 0; a < 10; a++) {
            add("rooted " + a, x.rooted(a));
            add("unreached " + a, x.unreached(a));
            for (int b = 0; b < 10; b++) {
                if (b < a) {
                    add("height " + a + ", " + b, x.height(a, b));
                }
                if (b != a) {
                    add("rootedArc " + a + ", " + b, x.rootedArc(a, b));
                }
            }
        }
    }

    private void ofBounds() {
        for (int d = 0; d < 10; d++) {
            add("bounded " + d, x.bounded(d));
            add("boundedSet " + d, x.boundedSet(d));
        }
    }

    private void ofEnds() {
        for (int node = 0; node < 10; node++) {
            int all = (2 << node) - 1;
            int two = 1 << node | 1;
            add("joined " + all, x.joined(all));
            add("joinedSet " + all, x.joinedSet(all));
            add("joined " + two, x.joined(two));
            add("joinedSet " + two, x.joinedSet(two));
        }
    }

    private void ofChanges() {
        for (int arc = 0; arc < 30; arc++) {
            add("change " + arc, x.change(arc, arc));
        }
        for (int i = 0; i < 11; i++) {
            add("node", x.node());
        }
        for (int i = 0; i < 31; i++) {
            add("arc", x.arc(8, 9, 0));
        }
        for (int arc = 0; arc < 30; arc++) {
            add("drop " + arc, x.drop(arc));
        }
        add("clear", x.clear());
        add("node after clear", x.node());
        add("parts after clear", x.parts());
    }
}
