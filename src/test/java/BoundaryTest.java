/** A test of its own for each sentence of the document that names a boundary case. */
final class BoundaryTest {
    private BoundaryTest() {
    }

    public static void main(String[] args) {
        UseBounds.test();
        StageBounds.test();
        DancerBounds.test();
        FigureBounds.test();
        WayBounds.test();
        ExitBounds.test();
        FormationBounds.test();
        OutputBounds.test();
        ProgramBounds.test();
        UndoBounds.test();
        Document.everySentenceIsQuoted();
        Check.end("BoundaryTest");
    }
}
