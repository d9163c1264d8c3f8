/** The rows of the edges: each sentence of the document is quoted, and rows of its own follow it. */
final class Edges {
    private final Document document;
    private String section = "";
    private String sentence = "";
    private int rows;
    private int wrong;

    Edges(Document document) {
        this.document = document;
    }

    /** The sentences that follow stand in this section of the document. */
    void in(String name) {
        leave();
        section = name;
    }

    /** The rows that follow are of this sentence. */
    void says(String quote) {
        leave();
        sentence = quote;
        rows = 0;
        if (!document.quote(section, quote)) fail("the document does not say this");
    }

    /** Calls on a new object. */
    void row(String... steps) {
        rows++;
        wrong += Steps.wrongOf(section + ", '" + sentence + "'", steps);
    }

    /** A text on a new object, which has this FAULT at the place of the sign ^, which is not fed. */
    void fault(int code, String marked) {
        int place = marked.indexOf('^');
        if (place < 0) fail("no place is marked in " + marked);
        row("'" + marked.replace("^", "") + "' = " + (-10 - place), "fault = " + code);
    }

    /** A text on a new object that is taken. */
    void taken(int lines, String text) {
        row("'" + text + "' = " + lines, "fault = 0");
    }

    /** What is not told by steps; counts as a row. */
    void due(boolean holds, String what) {
        rows++;
        if (!holds) fail(what);
    }

    /** How many answers are not as due, and sentences without a row. */
    int wrong() {
        leave();
        return wrong;
    }

    private void leave() {
        if (!sentence.isEmpty() && rows == 0) fail("this sentence has no row");
        sentence = "";
    }

    private void fail(String what) {
        wrong++;
        System.out.println(section + ", '" + sentence + "': " + what);
    }
}
