/** Each sentence of the document that names a boundary: from both sides, and what is refused changes nothing. */
public final class BoundaryTest {
    private BoundaryTest() {
    }

    public static void main(String[] args) {
        RowBounds.run();
        TapeBounds.run();
        NightBounds.run();
        ForetoldBounds.run();
        AskBounds.run();
        for (int promise = 1; promise <= Checks.PROMISES; promise++) {
            Checks.that("promise " + promise + " has a test of its bounds", Checks.has(promise));
        }
        Checks.end("BoundaryTest");
    }
}
