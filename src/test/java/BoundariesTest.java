/**
 * The sentences of the document that name a boundary: too small, too large, empty, full, a number that wraps
 * around, a refused call. Each has a test of its own, under the sentence's own words.
 */
public final class BoundariesTest {
    private BoundariesTest() {}

    public static void main(String[] args) {
        Sentences.open();
        TermBoundaries.all();
        RefusalBoundaries.all();
        ChangeBoundaries.all();
        PlaceBoundaries.all();
        WayBoundaries.all();
        PadBoundaries.all();
        KeepBoundaries.all();
        Sentences.close();
        Due.end();
    }
}
