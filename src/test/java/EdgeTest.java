import java.io.IOException;
import java.nio.file.Path;

/** For each sentence of the document that names a boundary case, the test that stands for it. */
public final class EdgeTest {
    public static void main(String[] args) throws IOException {
        Edges edges = Edges.every();
        for (int i = 0; i < edges.all.size(); i++) {
            if (edges.wrongOf(i) > 0) {
                System.out.println("NOT HELD  " + edges.all.get(i).name());
            }
        }
        told(edges, new Doc(Path.of("../shared/DOC.md")));
        System.out.println(edges.all.size() + " sentences");
        Check.end();
    }

    /** Each sentence stands in the document as it is quoted, and no words of the document are passed over. */
    private static void told(Edges edges, Doc doc) {
        for (Edges.Edge edge : edges.all) {
            Check.is(edge.name() + " stands there", doc.tell(edge.where, edge.sentence), true);
        }
        for (int i = 0; i < edges.plain.size(); i += 2) {
            String name = edges.plain.get(i) + ": " + edges.plain.get(i + 1);
            Check.is(name + " stands there", doc.tell(edges.plain.get(i), edges.plain.get(i + 1)), true);
        }
        for (String where : doc.parts.keySet()) {
            String untold = doc.untold(where);
            Check.is(where + " without a test: " + untold, untold.isEmpty(), true);
        }
    }
}
