import java.util.ArrayList;
import java.util.List;

/** Sentences of the document that name a boundary, in its own words, each with a test of its own. */
final class Edges {
    /** A test of one sentence; it may reach inside an object. */
    interface Check {
        void run() throws ReflectiveOperationException;
    }

    record Edge(String section, String sentence, Check check) {
    }

    private final List<Edge> edges = new ArrayList<>();
    private String section = "";

    /** The sentences added next stand in this section of the document. */
    Edges in(String title) {
        section = title;
        return this;
    }

    Edges add(String sentence, Check check) {
        edges.add(new Edge(section, sentence, check));
        return this;
    }

    List<Edge> all() {
        return edges;
    }

    void run() {
        int held = 0;
        for (Edge edge : edges) {
            if (holds(edge)) {
                held++;
            } else {
                System.out.println("  DOES NOT HOLD, " + edge.section() + ": \"" + edge.sentence() + "\"");
            }
        }
        System.out.println("  " + held + " of " + edges.size() + " sentences hold");
        Due.is("sentences that hold", held, edges.size());
        Due.end();
    }

    /** A test that asks nothing, or that ends in an exception, shows nothing: then the sentence does not hold. */
    private static boolean holds(Edge edge) {
        int right = Due.right();
        int wrong = Due.wrong();
        try {
            edge.check().run();
        } catch (ReflectiveOperationException | RuntimeException e) {
            System.out.println("  ended by " + e);
            return false;
        }
        return Due.wrong() == wrong && Due.right() > right;
    }
}
