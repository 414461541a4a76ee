/** Every promise by what is due for it: ordinary inputs, edges, wrong inputs. */
public final class BirchLeafTest {
    private BirchLeafTest() {
    }

    public static void main(String[] args) {
        RowsCases.run();
        TapeCases.run();
        NightCases.run();
        ForetoldCases.run();
        AskedCases.run();
        for (int promise = 1; promise <= Checks.PROMISES; promise++) {
            Checks.that("promise " + promise + " has a test", Checks.has(promise));
        }
        Checks.end("BirchLeafTest");
    }
}
