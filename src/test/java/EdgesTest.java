import java.nio.file.Path;

/** Each sentence of the document that names a boundary has a test of its own; the chapters stand in ../edges. */
public final class EdgesTest {
    public static void main(String[] args) throws Exception {
        Told.open(Path.of("../shared/DOC.md"));
        TermEdges.run();
        GridEdges.run();
        PlacingEdges.run();
        ChainEdges.run();
        SlotEdges.run();
        SheetEdges.run();
        RefusalEdges.run();
        if (!Told.end()) {
            System.exit(1);
        }
    }
}
