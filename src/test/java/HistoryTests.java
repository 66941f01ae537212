/** Promises 12 (undo), 13 (save) and 14 (restore). */
final class HistoryTests {
    private HistoryTests() {
    }

    static void run() {
        promise12EachAction();
        promise12FiveStates();
        promise12LeavesTheRest();
        promise12DrawsAgain();
        promise12ErrorsRecordNothing();
        promise13Save();
        promise14Restore();
        promise14IsAnAction();
    }

    private static CrosswordBoard inPlay() {
        CrosswordBoard board = Check.withWords("ae", "ac");
        Check.across(board, "ae", 40);
        return board;
    }

    private static void promise12EachAction() {
        Check.topic("promise 12");
        String before = Check.state(inPlay());
        for (int action = 0; action <= 6; action++) {
            CrosswordBoard board = inPlay();
            board.save();
            act(board, action);
            Check.due("states after action " + action, 4, board.count(10));
            Check.due("undo of action " + action, 3, board.undo());
            Check.due("state after undo of action " + action, before, Check.state(board));
        }
    }

    private static void act(CrosswordBoard board, int action) {
        switch (action) {
            case 0:
                board.addWord(Check.code("ad"));
                break;
            case 1:
                board.dropWord(Check.code("ae"));
                break;
            case 2:
                Check.due("play", 4, Check.down(board, "ac", 40));
                break;
            case 3:
                board.pass();
                break;
            case 4:
                board.swap();
                break;
            case 5:
                Check.write(board, "+ad,-ae,ac55v");
                Check.due("perform", 3, board.perform());
                break;
            default:
                board.restore();
                break;
        }
    }

    private static void promise12FiveStates() {
        CrosswordBoard board = new CrosswordBoard();
        Check.due("empty", CrosswordBoard.NONE, board.undo());
        String[] words = {"aa", "ab", "ac", "ad", "ae", "af", "ag", "ah"};
        for (int i = 0; i < words.length; i++) {
            board.addWord(Check.code(words[i]));
            Check.due("states", Math.min(i + 1, 5), board.count(10));
        }
        for (int left = 4; left >= 0; left--) {
            Check.due("undo", left, board.undo());
            Check.due("states", left, board.count(10));
            Check.due("words", left + 3, board.count(0));
        }
        Check.due("the older ones are dropped", CrosswordBoard.NONE, board.undo());
        Check.due("words", 3, board.count(0));
        board.addWord(Check.code("ha"));
        board.addWord(Check.code("hb"));
        Check.due("undo after new actions", 1, board.undo());
        Check.due("word 3", Check.code("ha"), board.word(3));
        Check.due("words", 4, board.count(0));
        Check.due("undo", 0, board.undo());
        Check.due("words", 3, board.count(0));
    }

    private static void promise12LeavesTheRest() {
        CrosswordBoard board = inPlay();
        Check.write(board, "-hh");
        board.perform();
        board.save();
        board.pass();
        board.clearText();
        Check.write(board, "+a");
        Check.due("undo", 4, board.undo());
        Check.due("text", 2, board.count(11));
        Check.due("stopped", CrosswordBoard.NO_SUCH, board.stopped());
        board.undo();
        board.undo();
        Check.due("tiles on the board", 0, board.count(1));
        Check.due("the snapshot is kept", 2, board.restore());
        Check.due("tile 40", 1, board.tile(40));
    }

    private static void promise12DrawsAgain() {
        CrosswordBoard board = inPlay();
        board.swap();
        String after = Check.state(board);
        board.undo();
        board.swap();
        Check.due("the same tiles are drawn again", after, Check.state(board));
    }

    private static void promise12ErrorsRecordNothing() {
        CrosswordBoard board = Check.withWords("ae");
        board.addWord(9);
        board.addWord(Check.code("ae"));
        board.dropWord(Check.code("ab"));
        board.dropWord(-1);
        Check.across(board, "ae", 0);
        Check.across(board, "ab", 40);
        Check.across(board, "ab", 90);
        board.perform();
        board.restore();
        Check.due("states", 1, board.count(10));
        Check.due("undo", 0, board.undo());
        Check.due("words", 0, board.count(0));
    }

    private static void promise13Save() {
        Check.topic("promise 13");
        CrosswordBoard board = Check.withWords("ae", "ac");
        Check.due("save", 0, board.save());
        Check.across(board, "ae", 40);
        Check.due("save", 2, board.save());
        Check.due("no action", 3, board.count(10));
        Check.down(board, "ac", 40);
        Check.due("the latest snapshot", 2, board.restore());
        Check.due("tile 49", 0, board.tile(49));
        Check.due("turn", 1, board.count(6));
        Check.down(board, "ac", 40);
        Check.due("save", 3, board.save());
        board.undo();
        Check.due("restore", 3, board.restore());
        CrosswordBoard saved = inPlay();
        String before = Check.everything(saved);
        saved.save();
        Check.due("all", before, Check.everything(saved));
    }

    private static void promise14Restore() {
        Check.topic("promise 14");
        CrosswordBoard board = inPlay();
        Check.due("without a snapshot", CrosswordBoard.NOT_POSSIBLE, board.restore());
        Check.due("states", 3, board.count(10));
        board.save();
        String saved = Check.state(inPlay());
        board.swap();
        board.pass();
        board.addWord(Check.code("ab"));
        board.dropWord(Check.code("ae"));
        Check.down(board, "ac", 40);
        Check.due("restore", 2, board.restore());
        Check.due("state", saved, Check.state(board));
        board.swap();
        board.addWord(Check.code("ab"));
        Check.due("the snapshot remains", 2, board.restore());
        Check.due("state", saved, Check.state(board));
    }

    private static void promise14IsAnAction() {
        CrosswordBoard board = new CrosswordBoard();
        board.save();
        board.addWord(Check.code("ae"));
        Check.write(board, "-aa");
        board.perform();
        Check.due("restore", 0, board.restore());
        Check.due("words", 0, board.count(0));
        Check.due("states", 3, board.count(10));
        Check.due("text", 3, board.count(11));
        Check.due("stopped", CrosswordBoard.NO_SUCH, board.stopped());
        Check.due("undo", 2, board.undo());
        Check.due("words", 1, board.count(0));
        Check.due("restore", 0, board.restore());
        Check.due("words", 0, board.count(0));
        Check.due("restore that changes nothing", 0, board.restore());
        Check.due("states", 4, board.count(10));
    }
}
