/** Runs every test of the project. */
public final class AllTests {
    private AllTests() {
    }

    public static void main(String[] args) throws Exception {
        FaceTest.run();
        LanguageTest.run();
        ReadmeTest.run();
        TextTest.run();
        FamilyTest.run();
        DaysTest.run();
        ForetoldTest.run();
        SeenTest.run();
        TextBoundsTest.run();
        ButtonBoundsTest.run();
        DayBoundsTest.run();
        ForetoldBoundsTest.run();
        SeenBoundsTest.run();
        GridTest.run();
        RandomRunsTest.run();
        System.out.println(Check.passed + " passed, " + Check.failed + " failed");
        if (Check.failed != 0) {
            System.exit(1);
        }
    }
}
