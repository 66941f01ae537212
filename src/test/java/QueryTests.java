/** Promises 16 (tile), 17 (run), 18 (crossCheck), 19 (anchor) and 22 (count). */
final class QueryTests {
    private static final int[] NO_SQUARES = {-1, 81, 82, 1000, Integer.MAX_VALUE, Integer.MIN_VALUE};

    private QueryTests() {
    }

    static void run() {
        promise16Tile();
        promise17Run();
        promise17LongRun();
        promise18CrossCheck();
        promise18FullRow();
        promise19Anchor();
        promise22Count();
        edgesOfTheBoard();
        queriesChangeNothing();
    }

    /** The board has "ae" across from 40 and "ac" down from 40. */
    private static CrosswordBoard aeAndAc() {
        CrosswordBoard board = Check.withWords("ae", "ac", "ha", "hac");
        Check.across(board, "ae", 40);
        Check.down(board, "ac", 40);
        return board;
    }

    private static void promise16Tile() {
        Check.topic("promise 16");
        CrosswordBoard board = aeAndAc();
        for (int square = 0; square < 81; square++) {
            int due = square == 40 ? 1 : square == 41 ? 5 : square == 49 ? 3 : 0;
            Check.due("tile " + square, due, board.tile(square));
        }
        for (int square : NO_SQUARES) {
            Check.due("tile " + square, CrosswordBoard.NO_SUCH, board.tile(square));
        }
    }

    private static void promise17Run() {
        Check.topic("promise 17");
        CrosswordBoard board = Check.withWords("ae");
        Check.due("empty board", CrosswordBoard.NONE, board.run(40, false));
        board = aeAndAc();
        Check.due("across, first", Check.code("ae"), board.run(40, false));
        Check.due("across, last", Check.code("ae"), board.run(41, false));
        Check.due("down, first", Check.code("ac"), board.run(40, true));
        Check.due("down, last", Check.code("ac"), board.run(49, true));
        Check.due("e alone", CrosswordBoard.NONE, board.run(41, true));
        Check.due("c alone", CrosswordBoard.NONE, board.run(49, false));
        Check.due("an empty square beside", CrosswordBoard.NONE, board.run(39, false));
        Check.due("an empty square behind", CrosswordBoard.NONE, board.run(58, true));
        Check.due("a corner", CrosswordBoard.NONE, board.run(0, false));
        for (int square : NO_SQUARES) {
            Check.due("run " + square, CrosswordBoard.NO_SUCH, board.run(square, false));
            Check.due("run " + square, CrosswordBoard.NO_SUCH, board.run(square, true));
        }
    }

    private static void promise17LongRun() {
        CrosswordBoard board = Check.withWords("aaefhh", "caaefhh", "ce", "ade");
        Check.due("aaefhh, h on (4,8)", 38, Check.across(board, "aaefhh", 39));
        Check.due("caaefhh", 18, Check.across(board, "caaefhh", 38));
        Check.due("ce", 4, Check.down(board, "ce", 38));
        Check.due("ade, d on (5,1)", 8, Check.across(board, "ade", 45));
        for (int square = 38; square <= 44; square++) {
            Check.due("run " + square, Check.code("caaefhh"), board.run(square, false));
        }
        Check.due("(5,0) is not behind (4,8)", Check.code("ade"), board.run(45, false));
        Check.due("the empty (4,1)", CrosswordBoard.NONE, board.run(37, false));
        Check.due("ce", Check.code("ce"), board.run(47, true));
        Check.due("(5,0) alone", CrosswordBoard.NONE, board.run(45, true));
    }

    private static void promise18CrossCheck() {
        Check.topic("promise 18");
        CrosswordBoard empty = new CrosswordBoard();
        Check.due("center", 255, empty.crossCheck(40, false));
        Check.due("far away", 255, empty.crossCheck(0, true));
        CrosswordBoard board = aeAndAc();
        Check.due("h over ac", 128, board.crossCheck(31, false));
        Check.due("alone in the row", 255, board.crossCheck(31, true));
        Check.due("none behind ac", 0, board.crossCheck(58, false));
        Check.due("none before ae", 0, board.crossCheck(39, true));
        Check.due("alone in the column", 255, board.crossCheck(39, false));
        Check.due("a over e", 1, board.crossCheck(32, false));
        Check.due("a before c", 1, board.crossCheck(48, true));
        Check.due("none behind c", 0, board.crossCheck(50, true));
        Check.due("none below e", 0, board.crossCheck(50, false));
        Check.due("far away", 255, board.crossCheck(80, false));
        Check.due("a tile", CrosswordBoard.NONE, board.crossCheck(40, false));
        Check.due("a tile", CrosswordBoard.NONE, board.crossCheck(49, true));
        board.addWord(Check.code("he"));
        board.addWord(Check.code("be"));
        Check.due("a, b, h over e", 131, board.crossCheck(32, false));
        board.dropWord(Check.code("ae"));
        Check.due("b, h over e", 130, board.crossCheck(32, false));
        for (int square : NO_SQUARES) {
            Check.due("square " + square, CrosswordBoard.NO_SUCH, board.crossCheck(square, false));
            Check.due("square " + square, CrosswordBoard.NO_SUCH, board.crossCheck(square, true));
        }
        CrosswordBoard between = Check.withWords("haha", "ha", "hc");
        Check.across(between, "haha", 40);
        Check.due("a on (5,4)", 5, Check.down(between, "ha", 40));
        Check.due("c on (5,6)", 7, Check.down(between, "hc", 42));
        Check.due("none between a and c", 0, between.crossCheck(50, true));
        between.addWord(Check.code("abc"));
        between.addWord(Check.code("aac"));
        between.addWord(Check.code("ab"));
        Check.due("a, b between a and c", 3, between.crossCheck(50, true));
        Check.due("b below a", 2, between.crossCheck(50, false));
    }

    private static void promise18FullRow() {
        CrosswordBoard board = Check.withWords("aaefhh", "caaefhh");
        Check.across(board, "aaefhh", 38);
        Check.due("c before aaefhh", 4, board.crossCheck(37, true));
        Check.across(board, "caaefhh", 37);
        Check.due("8 letters are no word", 0, board.crossCheck(44, true));
        Check.due("8 letters are no word", 0, board.crossCheck(36, true));
        Check.due("alone in the last column", 255, board.crossCheck(44, false));
        Check.due("the next row", 255, board.crossCheck(45, true));
    }

    private static void promise19Anchor() {
        Check.topic("promise 19");
        CrosswordBoard board = new CrosswordBoard();
        for (int square = 0; square < 81; square++) {
            Check.due("empty board, " + square, square == 40 ? 1 : 0, board.anchor(square));
        }
        for (int square : NO_SQUARES) {
            Check.due("anchor " + square, CrosswordBoard.NO_SUCH, board.anchor(square));
        }
        board = aeAndAc();
        String anchors = " 31 32 39 42 48 50 58 ";
        for (int square = 0; square < 81; square++) {
            Check.due("anchor " + square, anchors.contains(" " + square + " ") ? 1 : 0,
                board.anchor(square));
        }
        CrosswordBoard edge = Check.withWords("aaefhh");
        Check.across(edge, "aaefhh", 39);
        anchors = " 38 30 31 32 33 34 35 48 49 50 51 52 53 ";
        for (int square = 0; square < 81; square++) {
            Check.due("at the edge, " + square, anchors.contains(" " + square + " ") ? 1 : 0,
                edge.anchor(square));
        }
        Check.due("anchors", 13, edge.count(3));
    }

    private static void promise22Count() {
        Check.topic("promise 22");
        CrosswordBoard board = aeAndAc();
        counts(board, 4, 3, 23, 7, 2, 0, 0, 2, 0, 0, 5, 0);
        board.dropWord(Check.code("ae"));
        board.pass();
        Check.write(board, "abc");
        counts(board, 3, 3, 23, 7, 2, 1, 1, 2, 1, 0, 5, 3);
        board.swap();
        board.dropWord(Check.code("ac"));
        counts(board, 2, 3, 23, 7, 2, 2, 0, 2, 1, 1, 5, 3);
        board.undo();
        board.undo();
        counts(board, 3, 3, 23, 7, 2, 1, 1, 2, 1, 0, 3, 3);
        int[] wrong = {-1, 12, 13, 100, Integer.MAX_VALUE, Integer.MIN_VALUE};
        for (int what : wrong) {
            Check.due("count " + what, CrosswordBoard.BAD_VALUE, board.count(what));
        }
        CrosswordBoard square = Check.withWords("ae", "ha", "aa");
        Check.across(square, "ae", 40);
        Check.due("ha over ae", 19, Check.across(square, "ha", 31));
        Check.due("runs across and down", 4, square.count(4));
        Check.due("runs that are no word", 0, square.count(5));
        square.dropWord(Check.code("ae"));
        Check.due("ae is there twice", 2, square.count(5));
    }

    private static void counts(CrosswordBoard board, int... due) {
        for (int what = 0; what < due.length; what++) {
            Check.due("count " + what, due[what], board.count(what));
        }
    }

    /** Promises 16 to 19, 22 and 24 in the first row and in the first column. */
    private static void edgesOfTheBoard() {
        Check.topic("first row");
        CrosswordBoard row = Check.withWords("aaefh", "ha", "ab", "gcdaa");
        Check.due("aaefh, a on (0,4)", 13, Check.down(row, "aaefh", 4));
        Check.due("run", Check.code("aaefh"), row.run(4, true));
        Check.due("runs", 1, row.count(4));
        Check.due("anchor before", 1, row.anchor(3));
        Check.due("anchor behind", 1, row.anchor(5));
        Check.due("anchors", 11, row.count(3));
        Check.due("h before a", 128, row.crossCheck(3, true));
        Check.due("b behind a", 2, row.crossCheck(5, true));
        Check.due("alone in the column", 255, row.crossCheck(3, false));
        Check.due("gcdaa, g on (0,0)", 20, Check.across(row, "gcdaa", 0));
        Check.due("run", Check.code("gcdaa"), row.run(0, false));
        Check.due("runs", 2, row.count(4));
        Check.due("tile 0", 7, row.tile(0));
        Check.due("tiles", 9, row.count(1));
        Check.due("below the corner", 1, row.anchor(9));
        Check.topic("first column");
        CrosswordBoard column = Check.withWords("aaefh", "ha", "ab", "gcdaa");
        Check.due("aaefh, a on (4,0)", 13, Check.across(column, "aaefh", 36));
        Check.due("run", Check.code("aaefh"), column.run(36, false));
        Check.due("h above a", 128, column.crossCheck(27, false));
        Check.due("b below a", 2, column.crossCheck(45, false));
        Check.due("(3,8) is not before (4,0)", 0, column.anchor(35));
        Check.due("gcdaa, g on (0,0)", 20, Check.down(column, "gcdaa", 0));
        Check.due("run", Check.code("gcdaa"), column.run(0, true));
        Check.due("runs", 2, column.count(4));
        Check.due("beside the corner", 1, column.anchor(1));
        column.dropWord(Check.code("gcdaa"));
        Check.due("runs that are no word", 1, column.count(5));
    }

    private static void queriesChangeNothing() {
        Check.topic("queries change nothing");
        CrosswordBoard board = aeAndAc();
        CrosswordBoard twin = aeAndAc();
        Check.write(board, "+ab,ab1");
        Check.write(twin, "+ab,ab1");
        for (int argument = -1; argument <= 12; argument++) {
            board.word(argument);
            board.tile(argument);
            board.run(argument, false);
            board.crossCheck(argument, true);
            board.anchor(argument);
            board.tiles(argument, argument);
            board.score(argument);
            board.count(argument);
            board.best(argument);
            board.reason(Check.code("ae"), argument, true);
            board.worth(Check.code("ae"), argument, false);
        }
        board.plays();
        board.average();
        board.fault();
        board.stopped();
        Check.due("all", Check.everything(twin), Check.everything(board));
    }
}
