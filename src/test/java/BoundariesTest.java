/** A test of its own for each sentence of the document: promises 1 to 50, and 'Description'. */
public final class BoundariesTest {
    public static void main(String[] args) {
        Boundaries boundaries = new Boundaries();
        new ErrorBoundaries(boundaries).run();
        new GroupBoundaries(boundaries).run();
        new BlockBoundaries(boundaries).run();
        new ChangeBoundaries(boundaries).run();
        new DifferenceBoundaries(boundaries).run();
        new SymmetryBoundaries(boundaries).run();
        new DesignBoundaries(boundaries).run();
        new SearchBoundaries(boundaries).run();
        new TextBoundaries(boundaries).run();
        new SlotBoundaries(boundaries).run();
        boundaries.end();
    }
}
