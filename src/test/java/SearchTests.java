/** Promises 25 (plays) and 26 (best). */
final class SearchTests {
    private SearchTests() {
    }

    static void run() {
        promise25Plays();
        promise26Best();
        promise26LeastSquare();
        promise26AcrossBeforeDown();
        promise26LeastNumber();
        promise26NoneAndErrors();
    }

    private static void promise25Plays() {
        Check.topic("promise 25");
        Check.due("no word", 0, new CrosswordBoard().plays());
        CrosswordBoard board = Check.withWords("ae");
        Check.due("ae over the center", 4, board.plays());
        board.addWord(Check.code("aef"));
        Check.due("aef too", 10, board.plays());
        board.addWord(Check.code("ab"));
        Check.due("there is no b on the rack", 10, board.plays());
        board.pass();
        Check.due("player 1 has no e", 0, board.plays());
        board.pass();
        board.dropWord(Check.code("ae"));
        board.dropWord(Check.code("ab"));
        Check.due("aef alone", 6, board.plays());
        Check.across(board, "aef", 40);
        Check.due("player 1 has no e", 0, board.plays());
        board.addWord(Check.code("ag"));
        // Down from the a at 40, and across with g below this a.
        Check.due("ag", 2, board.plays());
        board.addWord(Check.code("aa"));
        // Down from 40 and from 31, and across with the last letter above or below the a at 40.
        Check.due("ag, aa", 6, board.plays());
    }

    private static void promise26Best() {
        Check.topic("promise 26");
        CrosswordBoard board = Check.withWords("ae", "haef", "hh", "ah");
        // haef: 10; with h on (4,0) or (0,4) it does not reach the center.
        best(board, 10, 13, 1, 1);
        board.dropWord(Check.code("haef"));
        best(board, 8, 31, 1, 1);
        board.addWord(Check.code("hhhhhhh"));
        best(board, 8, 31, 1, 1);
        board.addWord(Check.code("aaefhh"));
        // 15 + 15 and 2 more for a on (0,4) down, or 8 more for h on (8,4) or (4,8).
        best(board, 38, 31, 1, 4);
    }

    private static void promise26LeastSquare() {
        CrosswordBoard board = Check.withWords("ae");
        best(board, 2, 31, 1, 0);
        board.addWord(Check.code("ea"));
        best(board, 2, 31, 1, 0);
    }

    /** On a board with the same values across and down, "hb" from (3,3) is the best both ways. */
    private static void promise26AcrossBeforeDown() {
        CrosswordBoard board = Check.withWords("ae", "aa", "hb");
        Check.across(board, "ae", 40);
        Check.due("aa", 2, Check.down(board, "aa", 40));
        board.dropWord(Check.code("ae"));
        board.dropWord(Check.code("aa"));
        board.addWord(Check.code("bae"));
        board.addWord(Check.code("baa"));
        // h on a word square: (4 + 2) * 2, and 4 for baa or bae.
        Check.due("across", 16, board.worth(Check.code("hb"), 30, false));
        Check.due("down", 16, board.worth(Check.code("hb"), 30, true));
        Check.due("neither is refused", 0, board.reason(Check.code("hb"), 30, true));
        best(board, 16, 30, 0, 0);
    }

    private static void promise26LeastNumber() {
        CrosswordBoard board = Check.withWords("ea", "ae");
        best(board, 2, 31, 1, 0);
        board.dropWord(Check.code("ea"));
        board.addWord(Check.code("ea"));
        best(board, 2, 31, 1, 0);
        Check.due("word 0", Check.code("ae"), board.word(0));
    }

    private static void promise26NoneAndErrors() {
        CrosswordBoard board = Check.withWords("bb");
        int[] wrong = {-1, 4, 5, Integer.MAX_VALUE, Integer.MIN_VALUE};
        for (int what : wrong) {
            Check.due("best " + what, CrosswordBoard.BAD_VALUE, board.best(what));
        }
        for (int what = 0; what <= 3; what++) {
            Check.due("no play, best " + what, CrosswordBoard.NONE, board.best(what));
            Check.due("no word, best " + what, CrosswordBoard.NONE, new CrosswordBoard().best(what));
        }
    }

    private static void best(CrosswordBoard board, int score, int square, int direction, int word) {
        Check.due("best score", score, board.best(0));
        Check.due("best square", square, board.best(1));
        Check.due("best direction", direction, board.best(2));
        Check.due("best word", word, board.best(3));
    }
}
