import java.io.IOException;

/**
 * The edges that the document names, sentence by sentence: the last case that still goes, the first
 * that does not, and what an object has afterwards. No sentence may be left without a test.
 */
public final class BoundariesTest {
    public static void main(String[] args) throws IOException {
        Edge.readDocument();
        TermsEdges.run();
        RegistersEdges.run();
        ReckoningEdges.run();
        TextRowEdges.run();
        RemaindersEdges.run();
        FiguresEdges.run();
        FaultsEdges.run();
        Edge.allTold();
        Check.finish();
    }
}
