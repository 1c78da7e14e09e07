import java.util.List;

/** Runs a test of its own for each sentence of the document that names an edge. */
public final class EdgeTests {
    private static final int PROMISES = 41;

    public static void main(String[] args) {
        Tests.endWithin(300);
        int[] testsOf = new int[PROMISES + 1];
        int run = 0;
        for (Class<? extends Tests> tests : List.of(EdgesOfTerms.class, EdgesOfComing.class, EdgesOfAltering.class,
                EdgesOfChecking.class, EdgesOfNumbers.class)) {
            run += Tests.runAll(tests, testsOf);
        }
        Tests.promise = "EdgeTests";
        for (int p = 0; p <= PROMISES; p++) {
            Tests.due(testsOf[p] > 0 ? 1 : 0, 1, "whether promise " + p + " has a test of its edges");
        }
        Tests.end(run + " tests of edges hold");
    }
}
