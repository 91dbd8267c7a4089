import java.io.IOException;

/** Sentence by sentence of the document: each edge that it names, and that no sentence is left out. */
public final class BoundaryTest {
    public static void main(String[] args) throws IOException {
        Report report = new Report(new Document());
        Edges[] groups = {
            new LineEdges(report), new HandsEdges(report), new BassEdges(report), new TapeEdges(report),
            new SheetEdges(report), new WholeEdges(report), new RefusedEdges(report),
            new UndoEdges(report)};
        for (Edges group : groups) {
            group.run();
        }
        if (!report.end()) {
            System.exit(1);
        }
    }
}
