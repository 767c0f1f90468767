/** Each sentence of the document, at its edge, a step ahead of it and a step behind it. */
public final class EdgesTest {
    public static void main(String[] args) throws ReflectiveOperationException {
        TideEdges.all();
        FerryEdges.all();
        TravellerEdges.all();
        TextEdges.all();
        UndoEdges.all();
        WayEdges.all();
        Document.nothingIsLeft();
        Checks.end("EdgesTest");
    }
}
