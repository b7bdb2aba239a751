/** Runs every test of the project. */
public final class AllTests {
    private AllTests() {
    }

    public static void main(String[] args) {
        FaceTest.run();
        LandsAndGatesTest.run();
        SleepersAndPartsTest.run();
        PassesTest.run();
        QueuesTest.run();
        YawnTest.run();
        HoursTest.run();
        AskedTest.run();
        RingsAndWaysTest.run();
        PlansTest.run();
        DigestTest.run();
        ReadmeTest.run();
        Edges.run();
        RandomRunsTest.run();
        System.out.println(Check.passed + " passed, " + Check.failed + " failed");
        if (Check.failed != 0) {
            System.exit(1);
        }
    }
}
