import java.io.IOException;

/** Runs every test of the project on the program whose file is named, and ends with exit code 1 if one fails. */
public final class AllTests {
    private AllTests() { }

    public static void main(String[] args) throws IOException, ReflectiveOperationException {
        CityTest.run();
        TextsTest.run();
        LetsTest.run();
        WeightsTest.run();
        SortsTest.run();
        BillsTest.run();
        SwapsTest.run();
        SheetsTest.run();
        Sentences.read();
        CityEdges.run();
        TextsEdges.run();
        LetsEdges.run();
        WeightsEdges.run();
        SortsEdges.run();
        BillsEdges.run();
        SwapsEdges.run();
        SheetsEdges.run();
        Sentences.allAreClaimed();
        RandomRunsTest.run();
        PlansTest.run();
        AnyNumbersTest.run();
        RoomTest.run();
        ReadmeTest.run();
        LanguageTest.run(args.length > 0 ? args[0] : "src/main/java/SkipCity.java");
        System.out.println(Checks.passed + " passed, " + Checks.failed + " failed");
        if (Checks.failed != 0) {
            System.exit(1);
        }
    }
}
