import java.io.IOException;
import java.nio.file.Path;

/**
 * The document sentence by sentence: each is quoted as it stands in ../shared/DOC.md and has rows of its own at the
 * edges that it names. A quote that the document does not have fails, and so does a sentence that none quotes.
 */
public final class EdgesTest {
    private static final int SECTIONS = 41;

    public static void main(String[] args) throws IOException {
        Path root = Path.of(System.getProperty("project.root", "."));
        Document document = new Document(root.resolve("../shared/DOC.md"));
        Edges edges = new Edges(document);
        new TermsEdges(edges).all();
        new PromiseEdges(edges).all();
        int wrong = edges.wrong();
        String rest = document.unquoted();
        if (!rest.isEmpty()) System.out.print("no test quotes this:\n" + rest);
        if (!document.isThere()) System.out.println("../shared/DOC.md is not there: no quote was looked up");
        boolean whole = !document.isThere() || document.sectionCount() == SECTIONS;
        if (!whole) System.out.println("the document has " + document.sectionCount() + " sections");
        boolean held = wrong == 0 && rest.isEmpty() && whole;
        System.out.println(held ? "all edges hold" : wrong + " answers are not as due");
        if (!held) System.exit(1);
    }
}
