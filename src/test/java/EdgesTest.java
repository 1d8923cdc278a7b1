import java.io.IOException;

/** Each sentence of the document has a test of its own here, above all those that name a boundary case. */
final class EdgesTest {
    public static void main(String[] args) throws IOException {
        Check all = new Check("EdgesTest");
        Edges edges = new Edges(new Document(), all);
        WholeEdges.all(edges);
        ArgumentEdges.all(edges);
        SiteEdges.all(edges);
        LoanEdges.all(edges);
        RightsEdges.all(edges);
        ChangeEdges.all(edges);
        RebalanceEdges.all(edges);
        MessageEdges.all(edges);
        ScriptEdges.all(edges);
        HistoryEdges.all(edges);
        ExceptionEdges.all(edges);
        edges.eachSentenceHasATest();
        all.end();
    }
}
