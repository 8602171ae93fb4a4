/** Runs every test of the project, and ends with exit code 1 if one fails. */
public final class AllTests {
    private AllTests() { }

    public static void main(String[] args) {
        CityTest.run();
        TextsTest.run();
        LetsTest.run();
        WeightsTest.run();
        SortsTest.run();
        BillsTest.run();
        SwapsTest.run();
        SheetsTest.run();
        System.out.println(Checks.passed + " passed, " + Checks.failed + " failed");
        if (Checks.failed != 0) {
            System.exit(1);
        }
    }
}
