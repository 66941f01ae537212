/** The edges of the section 'Plays' and of the promises 4 (play), 23 (reason) and 24 (worth). */
final class PlayEdges {
    /** W for a word square, L for a letter square; "d = e and d is above 0", "d + e = 4 and d is not 2". */
    private static final String[] SQUARES = {
        "W...L...W",
        ".W.L.L.W.",
        "..W...W..",
        ".L.W.W.L.",
        "L.......L",
        ".L.W.W.L.",
        "..W...W..",
        ".W.L.L.W.",
        "W...L...W",
    };
    private static final int[] VALUES = {1, 2, 3, 2, 1, 4, 3, 4};

    private PlayEdges() {
    }

    static void run() {
        Check.topic("plays");
        kindsOfSquares();
        squaresOfTheMiddleLines();
        wordOfTheList();
        squaresOnTheBoard();
        tilesWithAnotherLetter();
        allSquaresHaveTiles();
        tilesDirectlyBeforeAndBehind();
        noNeighboursRoundTheEdge();
        noNeighboursBeyondTheBoard();
        oneSquareIsAnAnchor();
        lettersOfNewTilesInTheCrossCheck();
        oldTilesAreNotCrossChecked();
        asManyTilesAsNeeded();
        theFirstReasonIsTold();
        newTilesOnBonusSquares();
        oldTilesOnBonusSquares();
        bonusForSix();
        crossingRuns();
        crossingRunsEndAtAGap();
        madeAsItIsWorth();
    }

    // ---- the kinds of squares

    /** Each of the 81 squares, by words that end or begin at tiles in the middle column or row. */
    private static void kindsOfSquares() {
        String tiles = "aaefhh";
        for (int first = 0; first <= 3; first += 3) {
            for (int i = 0; i < 6; i++) {
                for (int isDown = 0; isDown <= 1; isDown++) {
                    CrosswordBoard board = Check.withWords(tiles);
                    int middle = isDown == 1 ? 9 * first + 4 : 36 + first;
                    Check.isTrue("tiles", board.play(Check.code(tiles), middle, isDown == 1) > 0);
                    wordsFromTheMiddle(board, first + i, tiles.charAt(i), isDown == 1);
                }
            }
        }
    }

    /** Words over 1 to 4 squares of a line besides the middle one, on both sides of it. */
    private static void wordsFromTheMiddle(CrosswordBoard board, int line, char tile, boolean isDown) {
        String before = "fcba";
        String behind = "abcf";
        for (int size = 1; size <= 4; size++) {
            String left = before.substring(4 - size) + tile;
            String right = tile + behind.substring(0, size);
            worthOnTheLine(board, line, 4 - size, left, isDown);
            worthOnTheLine(board, line, 4, right, isDown);
        }
    }

    /** The line is a row if the middle tiles go down; all squares but the middle one are empty. */
    private static void worthOnTheLine(CrosswordBoard board, int line, int start, String word,
        boolean isMiddleDown) {
        int sum = 0;
        int factor = 1;
        for (int i = 0; i < word.length(); i++) {
            char kind = start + i == 4 ? '.' : SQUARES[line].charAt(start + i);
            sum += VALUES[word.charAt(i) - 'a'] * (kind == 'L' ? 3 : 1);
            factor *= kind == 'W' ? 2 : 1;
        }
        int square = isMiddleDown ? 9 * line + start : 9 * start + line;
        board.addWord(Check.code(word));
        Check.due(word + " on the line " + line + " from " + start, sum * factor,
            board.worth(Check.code(word), square, !isMiddleDown));
        board.dropWord(Check.code(word));
    }

    /** The middle row and column themselves, where a play on the empty board lies. */
    private static void squaresOfTheMiddleLines() {
        for (int length = 2; length <= 7; length++) {
            CrosswordBoard board = Check.withWords("aaaaaaa".substring(0, length));
            int code = board.word(0);
            for (int start = 5 - length; start <= 4; start++) {
                if (start >= 0 && start + length <= 9) {
                    int due = length + (start == 0 ? 2 : 0) + (start + length == 9 ? 2 : 0)
                        + (length == 6 ? 15 : 0);
                    Check.due("across from " + start, due, board.worth(code, 36 + start, false));
                    Check.due("down from " + start, due, board.worth(code, 9 * start + 4, true));
                }
            }
        }
    }

    // ---- the reasons

    /** "1. The word is not in the list." */
    private static void wordOfTheList() {
        CrosswordBoard board = new CrosswordBoard();
        int code = Check.code("ae");
        Check.due("an empty list", 1, board.reason(code, 40, false));
        Check.due("an empty list", -11, board.play(code, 40, false));
        board.addWord(Check.code("aee"));
        Check.due("a longer word does not do", 1, board.reason(code, 40, false));
        board.addWord(code);
        Check.due("in the list", 0, board.reason(code, 40, false));
        board.dropWord(code);
        Check.due("no longer", 1, board.reason(code, 40, false));
        board.undo();
        Check.due("in the list again", 0, board.reason(code, 40, false));
    }

    /** "2. Not all squares of the play are on the board.", for each length and first square of a line. */
    private static void squaresOnTheBoard() {
        for (int length = 2; length <= 7; length++) {
            CrosswordBoard board = Check.withWords("hhhhhhh".substring(0, length));
            int code = board.word(0);
            for (int start = 0; start <= 8; start++) {
                boolean isOn = start + length <= 9;
                boolean overCenter = start <= 4 && start + length > 4;
                int middle = !isOn ? 2 : !overCenter ? 6 : length > 2 ? 8 : 0;
                int edge = isOn ? 6 : 2;
                String what = length + " letters from " + start;
                Check.due(what + ", across", middle, board.reason(code, 36 + start, false));
                Check.due(what + ", down", middle, board.reason(code, 9 * start + 4, true));
                Check.due(what + ", first row", edge, board.reason(code, start, false));
                Check.due(what + ", last row", edge, board.reason(code, 72 + start, false));
                Check.due(what + ", first column", edge, board.reason(code, 9 * start, true));
                Check.due(what + ", last column", edge, board.reason(code, 9 * start + 8, true));
            }
        }
    }

    /** "3. Some square of the play has a tile with another letter.": the first, the last, one between. */
    private static void tilesWithAnotherLetter() {
        CrosswordBoard board = Check.withWords("ae", "ac", "bc", "ba", "baf", "bbb", "haf", "hac");
        Check.across(board, "ae", 40);
        Check.down(board, "ac", 40);
        Check.due("the first", 3, board.reason(Check.code("bc"), 40, true));
        Check.due("the last", 3, board.reason(Check.code("bc"), 31, true));
        Check.due("the last but one", 3, board.reason(Check.code("bbb"), 31, true));
        Check.due("the last of three", 3, board.reason(Check.code("haf"), 31, true));
        Check.due("none", 0, board.reason(Check.code("hac"), 31, true));
    }

    /** "4. All squares of the play have tiles.": a whole run or a part of it; one new tile is enough. */
    private static void allSquaresHaveTiles() {
        CrosswordBoard board = Check.withWords("ae", "aed", "ed", "aeda", "eda");
        Check.across(board, "ae", 40);
        Check.across(board, "aed", 40);
        Check.due("the whole run", 4, board.reason(Check.code("aed"), 40, false));
        Check.due("its beginning", 4, board.reason(Check.code("ae"), 40, false));
        Check.due("its end", 4, board.reason(Check.code("ed"), 41, false));
        Check.due("one new tile", 0, board.reason(Check.code("aeda"), 40, false));
        Check.due("one new tile, but a tile before", 5, board.reason(Check.code("eda"), 41, false));
    }

    /** "5. The square directly before the first square, or directly behind the last square ..." */
    private static void tilesDirectlyBeforeAndBehind() {
        CrosswordBoard board = Check.withWords("ae", "ac", "aa", "aaa", "aaaa", "hh");
        Check.across(board, "ae", 40);
        Check.down(board, "ac", 40);
        Check.due("directly before, across", 5, board.reason(Check.code("aa"), 42, false));
        Check.due("directly behind, across", 5, board.reason(Check.code("aa"), 38, false));
        Check.due("directly behind, across", 5, board.reason(Check.code("aaaa"), 36, false));
        Check.due("directly before, down", 5, board.reason(Check.code("aa"), 58, true));
        Check.due("directly behind, down", 5, board.reason(Check.code("aa"), 22, true));
        Check.due("directly behind, down", 5, board.reason(Check.code("aaaa"), 4, true));
        Check.due("an empty square between, behind", 6, board.reason(Check.code("aaa"), 36, false));
        Check.due("an empty square between, before", 6, board.reason(Check.code("aa"), 43, false));
        Check.due("an empty square between, above", 6, board.reason(Check.code("aaa"), 4, true));
        Check.due("an empty square between, below", 6, board.reason(Check.code("aa"), 67, true));
        // (3,3) and (3,4): a beside the play, not in its direction, is no tile before or behind it.
        Check.due("a tile below the last square", 7, board.reason(Check.code("hh"), 30, false));
        FreeGame game = new FreeGame();
        game.put("aaefhh", 36, false);
        game.put(game.rack().substring(0, 4), 45, false);
        String word = game.rack().substring(0, 4);
        game.list(word, 50, false);
        Check.due("an empty square between, and crossings", 0,
            game.board.reason(Check.code(word), 50, false));
    }

    /** "... is on the board": the square before a column 0 or behind a column 8 is not. */
    private static void noNeighboursRoundTheEdge() {
        FreeGame left = new FreeGame();
        left.put("aaefhh", 36, false);
        String word = left.rack().substring(0, 4);
        left.list(word, 32, false);
        Check.isTrue("36 has a tile", left.board.tile(36) != 0);
        Check.due("a play up to 35", 0, left.board.reason(Check.code(word), 32, false));
        FreeGame right = new FreeGame();
        right.put("aaefhh", 39, false);
        word = right.rack().substring(0, 4);
        right.list(word, 45, false);
        Check.isTrue("44 has a tile", right.board.tile(44) != 0);
        Check.due("a play from 45", 0, right.board.reason(Check.code(word), 45, false));
        Check.isTrue("it can be made", right.put(word, 45, false) > 0);
    }

    /** The squares above the row 0 and below the row 8 are not on the board either. */
    private static void noNeighboursBeyondTheBoard() {
        for (int column = 3; column <= 5; column += 2) {
            FreeGame game = new FreeGame();
            game.put("aaefhh", 31, true);
            String word = game.rack().substring(0, 4);
            game.list(word, 45 + column, true);
            Check.due("down to the row 8", 0, game.board.reason(Check.code(word), 45 + column, true));
            game.list(word, column, true);
            Check.due("down from the row 0", 0, game.board.reason(Check.code(word), column, true));
        }
        CrosswordBoard board = Check.withWords("aaefh", "aaaefh");
        Check.due("down from the row 0", 0, board.reason(Check.code("aaefh"), 4, true));
        Check.due("down to the row 8", 0, board.reason(Check.code("aaefh"), 40, true));
        Check.due("across from the column 0", 0, board.reason(Check.code("aaefh"), 36, false));
        Check.due("across to the column 8", 0, board.reason(Check.code("aaefh"), 40, false));
    }

    /** "6. No square of the play is an anchor.": one is enough, be it the first, the last or between. */
    private static void oneSquareIsAnAnchor() {
        CrosswordBoard board = Check.withWords("ae", "ac", "ca", "aca", "cae", "aa", "ga", "acd");
        Check.due("the center alone is one", 6, board.reason(Check.code("ae"), 41, false));
        Check.due("the center alone is one", 6, board.reason(Check.code("ae"), 38, false));
        Check.due("the center alone is one", 6, board.reason(Check.code("ae"), 49, true));
        Check.due("the center alone is one", 6, board.reason(Check.code("ae"), 22, true));
        Check.due("the center is the last", 0, board.reason(Check.code("ae"), 39, false));
        Check.due("the center is the first", 0, board.reason(Check.code("ae"), 40, true));
        Check.across(board, "ae", 40);
        Check.due("the last is before ae", 0, board.reason(Check.code("ac"), 30, true));
        Check.due("the first is before ae", 0, board.reason(Check.code("ca"), 39, true));
        Check.due("one between is before ae", 0, board.reason(Check.code("aca"), 30, true));
        Check.due("the last touches ae at a corner", 6, board.reason(Check.code("aa"), 29, false));
        Check.due("the first touches ae at a corner", 6, board.reason(Check.code("aa"), 51, false));
        Check.due("one column apart", 6, board.reason(Check.code("aca"), 29, true));
        Check.due("two rows apart", 6, board.reason(Check.code("aa"), 22, false));
        Check.due("the center is no more than another tile", 6, board.reason(Check.code("ga"), 0, true));
    }

    /** "7. Some letter of a new tile is not in the cross-check of its square for this direction." */
    private static void lettersOfNewTilesInTheCrossCheck() {
        CrosswordBoard board = Check.withWords("ae", "ga", "ag", "ha", "aga", "he");
        Check.across(board, "ae", 40);
        // ga over ae: "ga" is a word, "ae" too; the rack of the player 1 is aacdgh.
        Check.due("both in the cross-checks", 0, board.reason(Check.code("ga"), 31, false));
        Check.due("the last is not: ge", 7, board.reason(Check.code("ag"), 31, false));
        Check.due("the only one that crosses is not: aa", 7, board.reason(Check.code("ga"), 30, false));
        Check.due("the only one that crosses: ae", 6, board.reason(Check.code("ga"), 33, false));
        Check.due("two of three cross: ga, ae", 0, board.reason(Check.code("aga"), 30, false));
        Check.due("the first is not: aa", 7, board.reason(Check.code("aga"), 31, false));
        Check.due("ha and ae", 0, board.reason(Check.code("ha"), 31, false));
        board.dropWord(Check.code("ae"));
        Check.due("ha, but ae is no longer a word", 7, board.reason(Check.code("ha"), 31, false));
        board.dropWord(Check.code("ga"));
        Check.due("ga is looked up in the list first", 1, board.reason(Check.code("ga"), 31, false));
    }

    /** Only the letters of new tiles are looked at: an old run that is no word does not matter. */
    private static void oldTilesAreNotCrossChecked() {
        CrosswordBoard board = Check.withWords("ae", "ac", "aeb");
        Check.across(board, "ae", 40);
        Check.down(board, "ac", 40);
        board.dropWord(Check.code("ac"));
        board.dropWord(Check.code("ae"));
        Check.due("runs that are no word", 2, board.count(5));
        Check.due("aeb", 0, board.reason(Check.code("aeb"), 40, false));
        Check.due("aeb", 4, Check.across(board, "aeb", 40));
    }

    /** "8. The rack ... has fewer tiles of some letter than the play has new tiles of it." */
    private static void asManyTilesAsNeeded() {
        // The rack 0 is aaefhh, the rack 1 aacdgh.
        CrosswordBoard board = Check.withWords("aa", "aaa", "hh", "hhh", "ef", "ee", "cd", "ahha");
        Check.due("two of two", 0, board.reason(Check.code("aa"), 40, false));
        Check.due("three of two", 8, board.reason(Check.code("aaa"), 40, false));
        Check.due("two of two", 0, board.reason(Check.code("hh"), 40, false));
        Check.due("three of two", 8, board.reason(Check.code("hhh"), 40, false));
        Check.due("one of one each", 0, board.reason(Check.code("ef"), 40, false));
        Check.due("two of one", 8, board.reason(Check.code("ee"), 40, false));
        Check.due("one of none", 8, board.reason(Check.code("cd"), 40, false));
        Check.due("two of two each", 0, board.reason(Check.code("ahha"), 40, false));
        board.pass();
        Check.due("the player whose turn it is has them", 0, board.reason(Check.code("cd"), 40, false));
        Check.due("the other player has them", 8, board.reason(Check.code("ef"), 40, false));
        Check.due("one of one h", 8, board.reason(Check.code("hh"), 40, false));
        board.pass();
        Check.across(board, "aa", 40);
        Check.due("two new ones and the old one", 0, board.reason(Check.code("aaa"), 40, true));
        board.addWord(Check.code("aaaa"));
        Check.due("three new ones and the old one", 8, board.reason(Check.code("aaaa"), 40, true));
        Check.due("two new ones and two old ones", 0, board.reason(Check.code("aaaa"), 40, false));
        Check.due("a letter of the board alone is none of the rack", 8,
            board.reason(Check.code("ahha"), 40, true));
    }

    /** "A play is refused for a reason, which is the first of the following that applies": in pairs. */
    private static void theFirstReasonIsTold() {
        // The rack 0 is abcfhh.
        CrosswordBoard board = Check.withWords("ae", "ac", "ea", "hh", "hhhhhh", "dd");
        Check.across(board, "ae", 40);
        Check.down(board, "ac", 40);
        refused(board, "1 and 2", 1, "gg", 80, false);
        refused(board, "1 and 3", 1, "gg", 40, false);
        refused(board, "1, 3 and 4", 1, "ca", 40, true);
        refused(board, "1 and 5", 1, "gg", 38, false);
        refused(board, "1 and 6", 1, "gg", 0, false);
        refused(board, "1 and 7", 1, "gg", 31, false);
        refused(board, "1 and 8", 1, "gg", 48, true);
        refused(board, "2 and 3", 2, "hhhhhh", 40, false);
        refused(board, "2 and 5", 2, "hhhhhh", 42, false);
        refused(board, "2 and 6", 2, "hhhhhh", 5, false);
        refused(board, "2 and 6, down", 2, "hhhhhh", 80, true);
        refused(board, "2 and 7", 2, "hhhhhh", 32, false);
        refused(board, "3 and 4", 3, "ea", 40, false);
        refused(board, "3 and 5", 3, "hh", 39, false);
        refused(board, "3 and 7", 3, "hh", 49, false);
        refused(board, "3 and 8", 3, "dd", 48, false);
        refused(board, "4 and 6", 4, "ae", 40, false);
        refused(board, "4 and 6, down", 4, "ac", 40, true);
        refused(board, "5 and 7", 5, "hh", 50, false);
        refused(board, "5 and 8", 5, "dd", 38, false);
        refused(board, "6 and 8", 6, "dd", 0, false);
        refused(board, "7 and 8", 7, "dd", 31, false);
        refused(board, "8 alone", 8, "dd", 30, true);
        board.addWord(Check.code("bac"));
        Check.due("bac", 6, Check.down(board, "bac", 31));
        refused(board, "4 and 5, a tile before", 4, "ac", 40, true);
        board.dropWord(Check.code("ae"));
        refused(board, "1 and 4", 1, "ae", 40, false);
    }

    /** By reason, by play and, for the reasons 1 to 7, by worth. */
    private static void refused(CrosswordBoard board, String what, int due, String word, int square,
        boolean isDown) {
        if (due == 8) {
            // A d before ae has to make a word, so that nothing but the rack is missing.
            board.addWord(Check.code("dae"));
        }
        int code = Check.code(word);
        Check.due(what, due, board.reason(code, square, isDown));
        Check.due(what, -10 - due, board.play(code, square, isDown));
        Check.isTrue(what + ", worth", (board.worth(code, square, isDown) > 0) == (due == 8));
        if (due < 8) {
            Check.due(what, CrosswordBoard.NONE, board.worth(code, square, isDown));
        }
    }

    // ---- the scores

    /** "this sum counts 2 times for each word square that gets a new tile (so 4 times for two ...)" */
    private static void newTilesOnBonusSquares() {
        CrosswordBoard board = Check.withWords("aaef", "bcdafgh", "bcda", "afgh", "cdafg");
        Check.down(board, "aaef", 13);
        // The row 1: word squares in the columns 1 and 7, letter squares in 3 and 5.
        Check.due("one word square", (2 + 3 + 6 + 1) * 2, board.worth(Check.code("bcda"), 10, false));
        Check.due("one word square", (1 + 12 + 3 + 4) * 2, board.worth(Check.code("afgh"), 13, false));
        Check.due("no word square", 3 + 6 + 1 + 12 + 3, board.worth(Check.code("cdafg"), 11, false));
        Check.due("two word squares, and 15 for six", (2 + 3 + 6 + 1 + 12 + 3 + 4) * 4 + 15,
            board.worth(Check.code("bcdafgh"), 10, false));
    }

    /** "... and gets a new tile": a tile that is there already counts once, and its square not at all. */
    private static void oldTilesOnBonusSquares() {
        CrosswordBoard board = Check.withWords("aaef", "gca", "agcaa", "gcaa");
        Check.down(board, "aaef", 13);
        Check.due("g on (1,2), c on (1,3)", 3 + 9 + 1, Check.across(board, "gca", 11));
        Check.due("a on (1,5): the c on (1,3) counts once", 3 + 3 + 1 + 3,
            board.worth(Check.code("gcaa"), 11, false));
        Check.due("a on (1,1), (1,5)", (1 + 3 + 3 + 1 + 3) * 2,
            board.worth(Check.code("agcaa"), 10, false));
        // Down over the a on (1,4), which is plain, from the letter square (0,4).
        board.addWord(Check.code("haaef"));
        Check.due("h on (0,4)", 12 + 1 + 1 + 1 + 4, board.worth(Check.code("haaef"), 4, true));
        // The word square (3,3), by a word down that begins with the old c on the letter square (1,3).
        board.addWord(Check.code("cbf"));
        board.addWord(Check.code("fe"));
        Check.due("b on (2,3) before a makes no word", CrosswordBoard.NONE,
            board.worth(Check.code("cbf"), 12, true));
        board.addWord(Check.code("ba"));
        Check.due("b before a, f before e: (3 + 2 + 4) * 2, 2 + 1, (4 + 1) * 2", 18 + 3 + 10,
            board.worth(Check.code("cbf"), 12, true));
    }

    /** "15 if there are just 6 new tiles (not 7)." */
    private static void bonusForSix() {
        CrosswordBoard empty = Check.withWords("ddddd", "dddddd", "ddddddd");
        Check.due("5 new tiles", 10, empty.worth(Check.code("ddddd"), 38, false));
        Check.due("6 new tiles", 12 + 15, empty.worth(Check.code("dddddd"), 38, false));
        Check.due("7 new tiles", 14, empty.worth(Check.code("ddddddd"), 37, false));
        CrosswordBoard board = Check.withWords("ae", "ddddaed", "ddaeddd", "aeddd", "aadd", "dddaedd");
        Check.across(board, "ae", 40);
        Check.due("7 letters, 5 new", 12, board.worth(Check.code("dddaedd"), 37, false));
        Check.due("7 letters, 5 new, d on (4,0)", 16, board.worth(Check.code("ddddaed"), 36, false));
        board.addWord(Check.code("dddaddd"));
        Check.due("7 letters, 6 new, down", 13 + 15, board.worth(Check.code("dddaddd"), 13, true));
        FreeGame game = new FreeGame();
        int score = game.put("aaefhh", 37, false);
        Check.due("six of the rack", 15 + 15, score);
        Check.due("score 0", 30, game.board.score(0));
    }

    /** "For each new tile that belongs to a run in the other direction then": for none, one and two. */
    private static void crossingRuns() {
        CrosswordBoard board = Check.withWords("ae", "ac", "ha", "hac", "gac", "eac", "ca", "aed", "ahe");
        Check.across(board, "ae", 40);
        Check.due("no crossing: d behind ae", 4, board.worth(Check.code("aed"), 40, false));
        // c on (3,4) over a makes "ca"; a on the word square (3,5) over e makes "ae".
        Check.due("two crossings", (3 + 1) * 2 + 4 + 2 * 2, board.worth(Check.code("ca"), 31, false));
        Check.down(board, "ac", 40);
        Check.due("an old tile's crossing run counts no more", 4,
            board.worth(Check.code("aed"), 40, false));
        // The letters over "ac" in the column 4 belong to no run across.
        Check.due("one long crossing", 4 + 1 + 3, board.worth(Check.code("hac"), 31, true));
        board.addWord(Check.code("hh"));
        Check.due("h over ac: 4 * 2 with h on (3,3), and hac", (4 + 4) * 2 + 8,
            board.worth(Check.code("hh"), 30, false));
        CrosswordBoard letters = Check.withWords("aaefhh", "ga", "gf", "ah");
        Check.across(letters, "aaefhh", 39);
        // a on the letter square (3,7) counts three times in "ga" and in "ah", the old h once.
        Check.due("a crossing on a letter square", 3 + 3 + 3 + 4 + 3 + 4,
            letters.worth(Check.code("ga"), 33, false));
    }

    /** A tile behind an empty square belongs to another run, on all four sides. */
    private static void crossingRunsEndAtAGap() {
        for (boolean isDown : new boolean[] {false, true}) {
            int next = isDown ? 9 : 1;
            int below = isDown ? 1 : 9;
            CrosswordBoard board = Check.withWords("ae", "ha", "aha", "ah");
            board.play(Check.code("ae"), 40, isDown);
            Check.due("ha", 5, board.play(Check.code("ha"), 40 - below, !isDown));
            // a before "ha" makes "aha"; h beside it has one empty square and then the e.
            Check.due("aha alone crosses", 1 + 4 + 1 + 4 + 1,
                board.worth(Check.code("ah"), 40 - 2 * below, isDown));
            board = Check.withWords("ae", "ac", "ach", "hh");
            board.play(Check.code("ae"), 40, isDown);
            Check.due("ac", 4, board.play(Check.code("ac"), 40, !isDown));
            Check.due("the e", 5, board.tile(40 + next));
            // h behind "ac" makes "ach"; the other h has one empty square and then the e.
            Check.due("ach alone crosses", 4 + 4 + 1 + 3 + 4,
                board.worth(Check.code("hh"), 40 + 2 * below, isDown));
        }
    }

    /** "its new tiles go from the rack to the board, its score is added": worth tells it before. */
    private static void madeAsItIsWorth() {
        FreeGame game = new FreeGame();
        int[] rows = {4, 5, 6, 7, 3, 2};
        for (int row : rows) {
            String word = game.rack();
            int square = 9 * row + 1;
            game.list(word, square, false);
            CrosswordBoard board = game.board;
            int worth = board.worth(Check.code(word), square, false);
            int best = board.best(0);
            Check.due("reason", 0, board.reason(Check.code(word), square, false));
            Check.due("row " + row, worth, game.put(word, square, false));
            Check.isTrue("the best is not less", best >= worth);
            Check.due("a second time", 4, board.reason(Check.code(word), square, false));
        }
    }
}
