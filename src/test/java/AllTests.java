/** Runs all tests of the project; ends with exit code 1 if one fails. */
public final class AllTests {
    private AllTests() {
    }

    public static void main(String[] arguments) throws Exception {
        FaceTests.run();
        WordTests.run();
        PlayTests.run();
        TurnTests.run();
        TextTests.run();
        HistoryTests.run();
        QueryTests.run();
        SearchTests.run();
        LetterEdges.run();
        BoardEdges.run();
        BagEdges.run();
        PlayEdges.run();
        TextEdges.run();
        HistoryEdges.run();
        RefusalEdges.run();
        SearchEdges.run();
        ModelTests.run();
        if (arguments.length > 0) {
            LanguageTests.run(arguments[0]);
        }
        System.out.println(Check.checks() + " checks, " + Check.wrong() + " wrong");
        if (Check.wrong() > 0) {
            System.exit(1);
        }
    }
}
