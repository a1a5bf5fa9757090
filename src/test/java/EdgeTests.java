/** A test of its own for each sentence of the document, at its boundaries: -Donly=.. runs those that have these words. */
public final class EdgeTests {
    public static void main(String[] args) {
        TextEdges.all();
        DayEdges.all();
        LookEdges.all();
        LightEdges.all();
        Edges.allQuoted("## Terms", "## Not promised");
        Edges.end("EdgeTests");
    }
}
