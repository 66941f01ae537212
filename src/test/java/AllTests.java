/**
 * Runs all tests of the project; ends with exit code 1 if one fails. The arguments are the paths of
 * CrosswordBoard.java and README.md, at whose texts two of the tests look.
 */
public final class AllTests {
    private AllTests() {
    }

    public static void main(String[] arguments) throws Exception {
        FaceTests.run();
        WordTests.run();
        PlayTests.run();
        TurnTests.run();
        TextTests.run();
        HistoryTests.run();
        QueryTests.run();
        SearchTests.run();
        LetterEdges.run();
        BoardEdges.run();
        BagEdges.run();
        PlayEdges.run();
        TextEdges.run();
        HistoryEdges.run();
        RefusalEdges.run();
        SearchEdges.run();
        ModelTests.run();
        if (arguments.length > 0) {
            LanguageTests.run(arguments[0]);
        }
        if (arguments.length > 1) {
            ReadmeTests.run(arguments[1]);
        }
        System.out.println(Check.checks() + " checks, " + Check.wrong() + " wrong");
        if (Check.wrong() > 0) {
            System.exit(1);
        }
    }
}
