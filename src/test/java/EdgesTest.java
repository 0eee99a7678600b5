/** The sentences of the document, each with a test of its own. */
public final class EdgesTest {
    public static void main(String[] args) {
        KeyEdges.all();
        ChangeEdges.all();
        QuestionEdges.all();
        AuditEdges.all();
        TextEdges.all();
        if (!Edges.allHold()) {
            System.exit(1);
        }
    }
}
