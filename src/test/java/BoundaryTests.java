import java.io.IOException;

/**
 * The boundary cases that the document names, sentence by sentence: too small, too large, empty, full,
 * wrapping around, refused. Behind them all its sentences are looked through for one without a test.
 */
public final class BoundaryTests {
    private BoundaryTests() {
    }

    public static void main(String[] args) throws IOException {
        TermsBoundaries.run();
        LegBoundaries.run();
        TextBoundaries.run();
        ErrorBoundaries.run();
        ChangeBoundaries.run();
        LoadBoundaries.run();
        MapBoundaries.run();
        ClueBoundaries.run();
        RouteBoundaries.run();
        DeedBoundaries.run();
        Document.compareWith(Check.sentences());
        Check.finish();
    }
}
