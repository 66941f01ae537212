import java.util.Arrays;
import java.util.TreeSet;

/** The edges of the section 'The board' and of the promises 16 to 19 and 22. */
final class BoardEdges {
    static final int[] NO_SQUARES = {
        -1, -2, -9, -81, 81, 82, 89, 90, 1000, Integer.MAX_VALUE, Integer.MIN_VALUE};
    private static final boolean[] DIRECTIONS = {false, true};

    private BoardEdges() {
    }

    static void run() {
        Check.topic("the board");
        allSquaresEmptyAtFirst();
        noSquares();
        tilesInTheCorners();
        cornersComeBack();
        oneTileIsNoRun();
        longestRuns();
        anchorOfTheEmptyBoard();
        anchorsInTheCorners();
        anchorsOnTheCorners();
        anchorsByTheirDefinition();
        crossCheckInTheCorners();
        crossCheckOfLongRuns();
        crossCheckIsForTheOtherDirection();
        countsOfNothing();
        countsOfEverything();
        countsOutOfRange();
        runsThatAreNoWord();
    }

    /** "At first all squares are empty." */
    private static void allSquaresEmptyAtFirst() {
        CrosswordBoard board = new CrosswordBoard();
        for (int square = 0; square <= 80; square++) {
            Check.due("tile " + square, 0, board.tile(square));
            for (boolean isDown : DIRECTIONS) {
                Check.due("run " + square, CrosswordBoard.NONE, board.run(square, isDown));
                Check.due("cross-check " + square, 255, board.crossCheck(square, isDown));
            }
        }
    }

    /** "The board has 9 rows and 9 columns": "NO_SUCH if there is no such square" in all six methods. */
    private static void noSquares() {
        for (int square : NO_SQUARES) {
            CrosswordBoard board = Check.withWords("aa");
            Check.due("tile " + square, CrosswordBoard.NO_SUCH, board.tile(square));
            Check.due("anchor " + square, CrosswordBoard.NO_SUCH, board.anchor(square));
            for (boolean isDown : DIRECTIONS) {
                Check.due("run " + square, CrosswordBoard.NO_SUCH, board.run(square, isDown));
                Check.due("cross-check " + square, CrosswordBoard.NO_SUCH,
                    board.crossCheck(square, isDown));
                // A word of the list and one that is not: the square is looked at before the reasons.
                for (int code = 10; code <= 11; code++) {
                    Check.due("play " + square, CrosswordBoard.NO_SUCH,
                        board.play(code, square, isDown));
                    Check.due("reason " + square, CrosswordBoard.NO_SUCH,
                        board.reason(code, square, isDown));
                    Check.due("worth " + square, CrosswordBoard.NO_SUCH,
                        board.worth(code, square, isDown));
                }
            }
        }
    }

    /**
     * A board with an a in one corner (0, 8, 72 or 80): six tiles in the row 4 up to the corner's
     * side, and from their end five up or down to the corner.
     */
    private static CrosswordBoard withCorner(int corner) {
        CrosswordBoard board = Check.withWords("haaefh", "aaefhh", "acdgh", "hcdga");
        boolean isRight = corner % 9 == 8;
        boolean isLow = corner > 40;
        int side = isRight ? 44 : 36;
        Check.isTrue("the row 4", isRight ? Check.across(board, "aaefhh", 39) > 0
            : Check.across(board, "haaefh", 36) > 0);
        Check.isTrue("the column", isLow ? Check.down(board, "hcdga", side) > 0
            : Check.down(board, "acdgh", corner) > 0);
        return board;
    }

    /** "The square in row r and column c has the number 9 * r + c": the first, the last, the corners. */
    private static void tilesInTheCorners() {
        for (int corner : new int[] {0, 8, 72, 80}) {
            CrosswordBoard board = withCorner(corner);
            String word = corner > 40 ? "hcdga" : "acdgh";
            int step = corner > 40 ? -9 : 9;
            Check.due("tile " + corner, 1, board.tile(corner));
            Check.due("run from " + corner, Check.code(word), board.run(corner, true));
            Check.due("run in the middle", Check.code(word), board.run(corner + 2 * step, true));
            Check.due("no run across", CrosswordBoard.NONE, board.run(corner, false));
            Check.due("no run of an empty square", CrosswordBoard.NONE,
                board.run(corner % 9 == 8 ? corner - 1 : corner + 1, false));
            Check.due("cross-check of a tile", CrosswordBoard.NONE, board.crossCheck(corner, true));
            Check.due("cross-check of a tile", CrosswordBoard.NONE, board.crossCheck(corner, false));
            Check.due("a tile is no anchor", 0, board.anchor(corner));
            Check.due("tiles", 10, board.count(1));
            Check.due("runs", 2, board.count(4));
            int others = 0;
            for (int square : new int[] {0, 8, 72, 80}) {
                others += board.tile(square);
            }
            Check.due("the other corners are empty", 1, others);
        }
    }

    /** The corners belong to the state, as all squares do. */
    private static void cornersComeBack() {
        for (int corner : new int[] {0, 8, 72, 80}) {
            CrosswordBoard board = withCorner(corner);
            Check.due("save", 10, board.save());
            board.pass();
            board.undo();
            Check.due("tile " + corner + " after undo", 1, board.tile(corner));
            board.undo();
            Check.due("tile " + corner + " after undo of the play", 0, board.tile(corner));
            Check.due("restore", 10, board.restore());
            Check.due("tile " + corner + " after restore", 1, board.tile(corner));
            board.undo();
            Check.due("tile " + corner + " after undo of restore", 0, board.tile(corner));
        }
    }

    /** "A run ... is a largest sequence of two or more squares with tiles". */
    private static void oneTileIsNoRun() {
        CrosswordBoard board = Check.withWords("ae", "ac");
        Check.due("no tile, no run", 0, board.count(4));
        Check.across(board, "ae", 40);
        Check.due("two tiles are a run", Check.code("ae"), board.run(40, false));
        Check.due("one is none", CrosswordBoard.NONE, board.run(40, true));
        Check.due("one is none", CrosswordBoard.NONE, board.run(41, true));
        Check.due("one run", 1, board.count(4));
        Check.down(board, "ac", 40);
        Check.due("one is none", CrosswordBoard.NONE, board.run(49, false));
        Check.due("two runs", 2, board.count(4));
    }

    /** The largest sequence is meant, from each of its squares; 7 tiles are the most there can be. */
    private static void longestRuns() {
        CrosswordBoard board = FreeGame.ofAllTiles().board;
        int down = 0;
        for (int row = 1; row <= 7; row++) {
            down = 9 * down + board.tile(9 * row + 1);
        }
        for (int row = 1; row <= 7; row++) {
            Check.due("column 1, row " + row, down, board.run(9 * row + 1, true));
        }
        int across = 0;
        for (int column = 1; column <= 6; column++) {
            across = 9 * across + board.tile(9 * 7 + column);
        }
        for (int column = 1; column <= 6; column++) {
            Check.due("row 7, column " + column, across, board.run(9 * 7 + column, false));
        }
        Check.due("above column 1", CrosswordBoard.NONE, board.run(1, true));
        Check.due("below column 1", CrosswordBoard.NONE, board.run(73, true));
        Check.due("before row 7", CrosswordBoard.NONE, board.run(63, false));
        Check.due("behind row 7", CrosswordBoard.NONE, board.run(70, false));
        // The row 1 has two tiles, 10 and 11.
        Check.due("row 1", 9 * board.tile(10) + board.tile(11), board.run(11, false));
    }

    /** "if the whole board is empty, just the center is an anchor." */
    private static void anchorOfTheEmptyBoard() {
        CrosswordBoard board = Check.withWords("ae");
        for (int square = 0; square <= 80; square++) {
            Check.due("anchor " + square, square == 40 ? 1 : 0, board.anchor(square));
        }
        Check.due("one anchor", 1, board.count(3));
        Check.across(board, "ae", 40);
        Check.due("the center has a tile", 0, board.anchor(40));
        Check.due("anchors", 6, board.count(3));
        board.undo();
        Check.due("the board is empty again", 1, board.anchor(40));
        Check.due("one anchor", 1, board.count(3));
        // With a tile right of it, the center would be an anchor; far from all tiles it is none.
        CrosswordBoard far = withCorner(80);
        Check.due("a corner far from all tiles", 0, far.anchor(0));
    }

    /** "An empty square is an anchor if some square next to it, in its row or in its column, has a tile". */
    private static void anchorsInTheCorners() {
        anchors(0, 1, 10, 19, 28);
        anchors(8, 7, 16, 25, 34);
        anchors(72, 73, 64, 55, 46);
        anchors(80, 79, 70, 61, 52);
    }

    /** Beside the column of the corner: four squares, from the corner to the row next to 4. */
    private static void anchors(int corner, Integer... beside) {
        CrosswordBoard board = withCorner(corner);
        TreeSet<Integer> due = new TreeSet<>(Arrays.asList(beside));
        boolean isRight = corner % 9 == 8;
        int first = isRight ? 39 : 36;
        for (int square = first; square <= first + 5; square++) {
            due.add(square - 9);
            due.add(square + 9);
        }
        due.add(isRight ? 38 : 42);
        // The column's tile next to the row 4 is no anchor.
        due.remove((isRight ? 44 : 36) + (corner > 40 ? 9 : -9));
        for (int square = 0; square <= 80; square++) {
            Check.due("corner " + corner + ", anchor " + square, due.contains(square) ? 1 : 0,
                board.anchor(square));
        }
        Check.due("anchors", 15, due.size());
        Check.due("anchors", 15, board.count(3));
    }

    /** The first and the last square are anchors themselves, and are counted. */
    private static void anchorsOnTheCorners() {
        CrosswordBoard first = Check.withWords("haaefh", "cdgha");
        Check.across(first, "haaefh", 36);
        Check.isTrue("cdgha down from (0,1)", Check.down(first, "cdgha", 1) > 0);
        Check.due("anchor 0", 1, first.anchor(0));
        // 6 above and 5 below the row 4, 1 at its end; 3 more on each side of the column.
        Check.due("anchors", 18, first.count(3));
        CrosswordBoard last = Check.withWords("aaefhh", "hcdga");
        Check.across(last, "aaefhh", 39);
        Check.isTrue("hcdga down to (8,7)", Check.down(last, "hcdga", 43) > 0);
        Check.due("anchor 80", 1, last.anchor(80));
        Check.due("anchors", 18, last.count(3));
    }

    /** The same on a board with all tiles: the squares round the block and no other ones. */
    private static void anchorsByTheirDefinition() {
        CrosswordBoard board = FreeGame.ofAllTiles().board;
        boolean[] hasTile = new boolean[81];
        for (int square = 0; square <= 80; square++) {
            hasTile[square] = board.tile(square) != 0;
        }
        for (int square = 0; square <= 80; square++) {
            boolean isBeside = square % 9 > 0 && hasTile[square - 1]
                || square % 9 < 8 && hasTile[square + 1]
                || square >= 9 && hasTile[square - 9]
                || square < 72 && hasTile[square + 9];
            Check.due("anchor " + square, !hasTile[square] && isBeside ? 1 : 0, board.anchor(square));
        }
        Check.due("anchors", 25, board.count(3));
    }

    /** "such that ... it would belong to no run in the other direction, or ... a word of the list." */
    private static void crossCheckInTheCorners() {
        int[] corners = {0, 8, 72, 80};
        int[] beside = {1, 7, 73, 79};
        for (int i = 0; i < 4; i++) {
            CrosswordBoard board = withCorner(corners[i]);
            Check.due("no word beside " + corners[i], 0, board.crossCheck(beside[i], true));
            for (String word : new String[] {"ha", "ab", "ba", "ah"}) {
                board.addWord(Check.code(word));
            }
            // b and h before an a on the right, or behind an a on the left.
            Check.due("beside " + corners[i], 130, board.crossCheck(beside[i], true));
            Check.due("alone in its column", 255, board.crossCheck(beside[i], false));
            int opposite = 80 - corners[i];
            Check.due("far away", 255, board.crossCheck(opposite, true));
            Check.due("far away", 255, board.crossCheck(opposite, false));
        }
    }

    /** No word of the list has 8 or 9 letters, whatever letter is put. */
    private static void crossCheckOfLongRuns() {
        CrosswordBoard all = FreeGame.ofAllTiles().board;
        Check.due("above 7 tiles", 0, all.crossCheck(1, false));
        Check.due("below 7 tiles", 0, all.crossCheck(73, false));
        Check.due("above 7 tiles, alone in the row", 255, all.crossCheck(0, false));
        FreeGame game = new FreeGame();
        game.put("aaefhh", 36, false);
        game.put(game.rack().substring(0, 4), 45, false);
        String last = game.rack().substring(0, 4);
        game.put(last, 50, false);
        Check.due("between four tiles and four", 0, game.board.crossCheck(49, true));
        // The list has "h" and the first letter of the last word, which stands under an h.
        Check.due("under an h", 1 << (last.charAt(0) - 'a'), game.board.crossCheck(49, false));
        game.board.addWord(Check.code("hd"));
        game.board.addWord(Check.code("hg"));
        Check.due("under an h", 1 << (last.charAt(0) - 'a') | 8 | 64,
            game.board.crossCheck(49, false));
    }

    /** The run in the direction itself does not count. */
    private static void crossCheckIsForTheOtherDirection() {
        CrosswordBoard board = Check.withWords("ae", "aea", "aeb");
        Check.across(board, "ae", 40);
        Check.due("behind ae, for across", 255, board.crossCheck(42, false));
        Check.due("behind ae, for down", 3, board.crossCheck(42, true));
        Check.due("before ae, for across", 255, board.crossCheck(39, false));
        Check.due("before ae, for down", 0, board.crossCheck(39, true));
        Check.due("at a corner of ae", 255, board.crossCheck(33, true));
        Check.due("bit 7 stands for h", 0, board.crossCheck(42, true) & 128);
        board.addWord(Check.code("aeh"));
        Check.due("bit 7 stands for h", 128 + 3, board.crossCheck(42, true));
    }

    /** Promise 22 on a new object. */
    private static void countsOfNothing() {
        CrosswordBoard board = new CrosswordBoard();
        int[] due = {0, 0, 26, 1, 0, 0, 0, 0, 0, 0, 0, 0};
        for (int what = 0; what <= 11; what++) {
            Check.due("count " + what, due[what], board.count(what));
        }
    }

    /** Promise 22 with all tiles on the board, full history and full text. */
    private static void countsOfEverything() {
        CrosswordBoard board = FreeGame.ofAllTiles().board;
        for (int i = 0; i < 81; i++) {
            board.append(' ');
        }
        // The runs are the rows 1 to 7 and the columns 1 to 6; the list has but the words of the last
        // play, those of the row 1 and of the columns 1 and 2.
        int[] due = {3, 38, 0, 25, 13, 10, 1, 7, 0, 0, 5, 80};
        for (int what = 0; what <= 11; what++) {
            Check.due("count " + what, due[what], board.count(what));
        }
    }

    /** "BAD_VALUE if out of range": what is 0 to 11. */
    private static void countsOutOfRange() {
        CrosswordBoard board = new CrosswordBoard();
        int[] wrong = {-1, -2, -5, 12, 13, 20, 256, Integer.MAX_VALUE, Integer.MIN_VALUE};
        for (int what : wrong) {
            Check.due("count " + what, CrosswordBoard.BAD_VALUE, board.count(what));
        }
        Check.isTrue("0 is in range", board.count(0) >= 0);
        Check.isTrue("11 is in range", board.count(11) >= 0);
    }

    /** "runs whose letters are no word of the list": each run counts, in both directions. */
    private static void runsThatAreNoWord() {
        int[] codes = new int[4];
        CrosswordBoard board = Check.withWords("ae", "ha", "aa");
        Check.across(board, "ae", 40);
        Check.due("ha over ae", 19, Check.across(board, "ha", 31));
        codes[0] = board.run(31, false);
        codes[1] = board.run(40, false);
        codes[2] = board.run(31, true);
        codes[3] = board.run(32, true);
        Check.due("runs", "[73, 14, 73, 14]", Arrays.toString(codes));
        Check.due("all are words", 0, board.count(5));
        board.dropWord(Check.code("aa"));
        Check.due("aa is no run", 0, board.count(5));
        board.dropWord(Check.code("ha"));
        Check.due("ha across and down", 2, board.count(5));
        board.dropWord(Check.code("ae"));
        Check.due("none is a word", 4, board.count(5));
        Check.due("runs", 4, board.count(4));
        board.undo();
        Check.due("ha across and down", 2, board.count(5));
        CrosswordBoard first = Check.withWords("aaefh", "gcdaa");
        Check.down(first, "aaefh", 4);
        Check.across(first, "gcdaa", 0);
        Check.due("runs", 2, first.count(4));
        first.dropWord(Check.code("gcdaa"));
        Check.due("the run from the first square", 1, first.count(5));
        CrosswordBoard last = Check.withWords("aaefhh", "hcdga", "ba");
        Check.across(last, "aaefhh", 39);
        Check.down(last, "hcdga", 44);
        Check.due("b before the last square", 3, Check.across(last, "ba", 79));
        Check.due("runs", 3, last.count(4));
        Check.due("all are words", 0, last.count(5));
        last.dropWord(Check.code("ba"));
        Check.due("the run to the last square", 1, last.count(5));
        last.dropWord(Check.code("hcdga"));
        Check.due("both runs to the last square", 2, last.count(5));
    }
}
