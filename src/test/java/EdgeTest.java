import java.io.IOException;
import java.nio.file.Path;

/** The whole document, sentence by sentence: each that names an edge has a test of its own, and none is left out. */
public final class EdgeTest {
    private EdgeTest() {
    }

    public static void main(String[] args) throws IOException {
        Check check = new Check("EdgeTest");
        Edges edges = new Edges(check, new Sentences(Path.of("../shared/DOC.md")));
        RefusalEdges.tell(edges);
        SeaEdges.tell(edges);
        DayEdges.tell(edges);
        FloatEdges.tell(edges);
        ShipEdges.tell(edges);
        ReadingEdges.tell(edges);
        MapEdges.tell(edges);
        SearchEdges.tell(edges);
        TideEdges.tell(edges);
        edges.end();
        check.end();
    }
}
