/**
 * The edges of the section 'Errors': "A method that returns an error code changes nothing (except
 * the latest stop in perform)", and a method that returns NONE neither.
 */
final class RefusalEdges {
    /** A call, and what it has to answer. */
    private interface Call {
        int on(CrosswordBoard board);
    }

    private RefusalEdges() {
    }

    static void run() {
        Check.topic("refused calls change nothing");
        actionsRefused();
        playsRefused();
        textRefused();
        queriesRefused();
        fullListAndText();
        emptyHistory();
        lateGame();
    }

    /** Full history, snapshot, latest stop and an incomplete text; the turn of the player 1. */
    private static CrosswordBoard inPlay() {
        CrosswordBoard board = Check.withWords("ae", "aed", "aa", "ea", "hh", "ac");
        Check.write(board, "-gg");
        board.perform();
        Check.across(board, "ae", 40);
        board.save();
        Check.down(board, "ac", 40);
        board.swap();
        board.pass();
        board.pass();
        board.pass();
        Check.write(board, ",+a");
        return board;
    }

    /** All that the calls after this one can tell, what no query shows too; some 270 calls. */
    private static String future(CrosswordBoard board) {
        StringBuilder text = new StringBuilder(Check.everything(board));
        for (int i = 0; i < 2; i++) {
            text.append(" swap ").append(board.swap()).append(Check.tiles(board, i));
        }
        for (int i = 0; i < 7; i++) {
            text.append(" undo ").append(board.undo());
            for (int what = 0; what <= 9; what++) {
                text.append(' ').append(board.count(what));
            }
            text.append(' ').append(board.score(0)).append(' ').append(board.score(1));
        }
        text.append(" restore ").append(board.restore()).append(' ').append(board.count(1));
        return text.append(' ').append(board.count(8)).append(' ').append(board.score(1)).toString();
    }

    private static void unchanged(String what, int due, Call call) {
        CrosswordBoard board = inPlay();
        Check.due(what, due, call.on(board));
        Check.due(what + ", then", future(inPlay()), future(board));
    }

    private static void actionsRefused() {
        unchanged("add no code", -2, board -> board.addWord(9));
        unchanged("add a word again", -4, board -> board.addWord(Check.code("aed")));
        unchanged("drop no code", -2, board -> board.dropWord(90));
        unchanged("drop an unknown word", -1, board -> board.dropWord(Check.code("gg")));
        unchanged("perform a beginning", -106, CrosswordBoard::perform);
    }

    private static void playsRefused() {
        unchanged("no code", -2, board -> board.play(0, 40, false));
        unchanged("no code, no square", -2, board -> board.play(0, -1, false));
        unchanged("no square", -1, board -> board.play(10, 81, true));
        refused("gg", 40, false, 1);
        refused("aed", 43, false, 2);
        refused("ea", 40, false, 3);
        refused("ae", 40, false, 4);
        refused("aa", 42, false, 5);
        refused("aa", 0, false, 6);
        refused("ae", 31, false, 7);
        refused("hh", 33, true, 8);
    }

    private static void refused(String word, int square, boolean isDown, int reason) {
        int code = Check.code(word);
        Call setUp = board -> board.addWord(Check.code("aeh"));
        CrosswordBoard board = inPlay();
        CrosswordBoard twin = inPlay();
        if (reason == 8) {
            setUp.on(board);
            setUp.on(twin);
        }
        int place = reason == 8 ? 42 : square;
        Check.due("reason " + reason, reason, board.reason(code, place, isDown));
        Check.due("play " + reason, -10 - reason, board.play(code, place, isDown));
        Check.due("play " + reason + ", then", future(twin), future(board));
    }

    private static void textRefused() {
        unchanged("append 31", -2, board -> board.append(31));
        unchanged("append 127", -2, board -> board.append(127));
    }

    private static void queriesRefused() {
        unchanged("word -1", -1, board -> board.word(-1));
        unchanged("word 6", -1, board -> board.word(6));
        unchanged("tile 81", -1, board -> board.tile(81));
        unchanged("run -1", -1, board -> board.run(-1, true));
        unchanged("run of one tile", -5, board -> board.run(41, true));
        unchanged("cross-check 81", -1, board -> board.crossCheck(81, true));
        unchanged("cross-check of a tile", -5, board -> board.crossCheck(40, true));
        unchanged("anchor -1", -1, board -> board.anchor(-1));
        unchanged("tiles of 3", -1, board -> board.tiles(3, 1));
        unchanged("tiles of letter 9", -1, board -> board.tiles(2, 9));
        unchanged("score of 2", -1, board -> board.score(2));
        unchanged("count 12", -2, board -> board.count(12));
        unchanged("reason of no code", -2, board -> board.reason(9, 40, true));
        unchanged("reason on no square", -1, board -> board.reason(10, -1, true));
        unchanged("worth of no code", -2, board -> board.worth(9, 40, true));
        unchanged("worth on no square", -1, board -> board.worth(10, 81, true));
        unchanged("worth of a refused play", -5, board -> board.worth(10, 40, true));
        unchanged("best 4", -2, board -> board.best(4));
        unchanged("best -1", -2, board -> board.best(-1));
    }

    /** TOO_MANY: of addWord with 20 words and of append with 80 characters. */
    private static void fullListAndText() {
        CrosswordBoard board = full();
        Check.due("a 21st word", CrosswordBoard.TOO_MANY, board.addWord(Check.code("hh")));
        Check.due("an 81st character", CrosswordBoard.TOO_MANY, board.append(','));
        Check.due("perform", -181 + 1, board.perform());
        Check.due("then", future(full()), future(board));
    }

    private static CrosswordBoard full() {
        CrosswordBoard board = new CrosswordBoard();
        for (int i = 0; i < 20; i++) {
            board.addWord(10 + i / 8 * 9 + i % 8);
        }
        for (int i = 0; i < 20; i++) {
            Check.write(board, "-aa,");
        }
        board.save();
        return board;
    }

    /** NONE of undo and of best, and NOT_POSSIBLE of restore: nothing is there to be changed. */
    private static void emptyHistory() {
        CrosswordBoard board = new CrosswordBoard();
        Check.due("undo", CrosswordBoard.NONE, board.undo());
        Check.due("restore", CrosswordBoard.NOT_POSSIBLE, board.restore());
        Check.due("best", CrosswordBoard.NONE, board.best(0));
        Check.due("perform", -100, board.perform());
        Check.due("then", future(new CrosswordBoard()), future(board));
    }

    /** NOT_POSSIBLE of swap: with two tiles in the bag, and none of them is drawn. */
    private static void lateGame() {
        FreeGame game = FreeGame.ofSixes(4);
        FreeGame twin = FreeGame.ofSixes(4);
        Check.due("swap", CrosswordBoard.NOT_POSSIBLE, game.board.swap());
        String row = game.rack();
        game.put(row, 28, false);
        twin.put(row, 28, false);
        Check.due("then", future(twin.board), future(game.board));
    }
}
