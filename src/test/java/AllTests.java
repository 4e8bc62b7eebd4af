/** Runs every test of the project; ends with exit code 1 if one fails. */
public final class AllTests {
    private AllTests() {
    }

    public static void main(String[] args) {
        FaceTests.runAll();
        ReadmeTests.runAll();
        PromiseTests.runAll();
        TermEdgeTests.runAll();
        PromiseEdgeTests.runAll();
        PowerCutTests.runAll();
        ModelTests.runAll();
        if (Check.report() != 0) {
            System.exit(1);
        }
    }
}
