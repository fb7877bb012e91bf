import java.util.ArrayList;
import java.util.List;

/** Tests that each stand for one sentence of the document, with ways in which the program would break it. */
final class Edges {
    /** A sentence of the document, or a part of one, that names a boundary case. */
    static final class Edge {
        final String where;
        final String sentence;
        final Runnable test;
        /** Text of the program and what stands in its place when the sentence is broken, by turns. */
        final String[] breaks;

        Edge(String where, String sentence, Runnable test, String[] breaks) {
            this.where = where;
            this.sentence = sentence;
            this.test = test;
            this.breaks = breaks;
        }

        String name() {
            return where + ": \"" + sentence + "\"";
        }
    }

    final List<Edge> all = new ArrayList<>();
    /** Where, and a sentence of which no test can be made, by turns. */
    final List<String> plain = new ArrayList<>();

    static Edges every() {
        Edges edges = new Edges();
        TextEdges.tell(edges);
        FaultEdges.tell(edges);
        WordEdges.tell(edges);
        HoldEdges.tell(edges);
        LeanEdges.tell(edges);
        MendEdges.tell(edges);
        WorldEdges.tell(edges);
        CallEdges.tell(edges);
        AskEdges.tell(edges);
        return edges;
    }

    /** What follows the test are breaks: a text of the program, then what breaks it. */
    void of(String where, String sentence, Runnable test, String... breaks) {
        all.add(new Edge(where, sentence, test, breaks));
    }

    void plain(String where, String sentence) {
        plain.add(where);
        plain.add(sentence);
    }

    /** Runs the test of one edge: how many of its answers are not as due. */
    int wrongOf(int i) {
        int asked = Check.asked();
        int wrong = Check.wrong();
        try {
            all.get(i).test.run();
        } catch (RuntimeException | StackOverflowError e) {
            Check.fail("a call threw " + e);
        }
        if (Check.asked() == asked) {
            Check.fail("nothing was asked");
        }
        return Check.wrong() - wrong;
    }

    /** The same for another class loader's eyes, without a word printed. */
    static int wrongUnheard(int i) {
        Check.mute();
        return every().wrongOf(i);
    }
}
