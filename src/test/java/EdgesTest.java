/** Each sentence of the document that names a boundary case, by its own words and with a test of its own. */
public final class EdgesTest {
    public static void main(String[] args) throws Exception {
        Check check = new Check();
        Edges edges = new Edges(check, args);
        GuestEdges.all(edges);
        LawEdges.all(edges);
        MinuteEdges.all(edges);
        ThoughtEdges.all(edges);
        StairEdges.all(edges);
        DrawnEdges.all(edges);
        DeedEdges.all(edges);
        HookEdges.all(edges);
        ShelfEdges.all(edges);
        RefusalEdges.all(edges);
        edges.end();
        check.end();
    }
}
