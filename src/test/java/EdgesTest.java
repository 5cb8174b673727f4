import java.io.IOException;

/** Every sentence of the document that names a boundary case, with a test of its own. */
public final class EdgesTest {
    public static void main(String[] args) throws IOException {
        Edges edges = new Edges();
        TextEdges.all(edges);
        CourseEdges.all(edges);
        ChangeEdges.all(edges);
        LookEdges.all(edges);
        BestEdges.all(edges);
        RefusalEdges.all(edges);
        edges.end();
    }
}
