import java.nio.file.Files;
import java.nio.file.Path;

/** Each sentence of the document that names a boundary case, with a test of its own. */
public final class EdgesTest {
    public static void main(String[] args) throws Exception {
        Path doc = Path.of("../shared/DOC.md");
        // without the document the tests still stand, only their quotes can't be looked up
        Edges edges = new Edges(Files.isReadable(doc) ? Files.readString(doc) : "");
        TextEdges.addTo(edges);
        ActEdges.addTo(edges);
        SayingEdges.addTo(edges);
        OutlookEdges.addTo(edges);
        ReportEdges.addTo(edges);
        KeepEdges.addTo(edges);
        edges.finish();
    }
}
