/** A test of its own for each sentence of the document, at its boundaries: -Donly=.. runs those that have these words. */
public final class EdgeTests {
    static void all() {
        TextEdges.all();
        DayEdges.all();
        LookEdges.all();
        LightEdges.all();
    }

    public static void main(String[] args) {
        all();
        Edges.allQuoted("## Terms", "## Not promised");
        Edges.end("EdgeTests");
    }
}
