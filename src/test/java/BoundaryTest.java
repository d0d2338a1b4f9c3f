import java.io.IOException;

/** Every sentence of the document's "Description" and of its promises 1 to 31, at the boundary cases that it names. */
public final class BoundaryTest {
    public static void main(String[] args) throws IOException {
        DescriptionBoundaries.run();
        OperationBoundaries.run();
        LawsBoundaries.run();
        InnerBoundaries.run();
        BraidBoundaries.run();
        WeightsBoundaries.run();
        HistoryBoundaries.run();
        Document.compare();
        Check.end("BoundaryTest");
    }
}
