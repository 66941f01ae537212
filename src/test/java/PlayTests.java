/** Promises 4 (play), 23 (reason) and 24 (worth). */
final class PlayTests {
    private static final int[] NO_CODES = {0, 9, 8, -10, 90, 4782969, 5380840, Integer.MIN_VALUE};
    private static final int[] NO_SQUARES = {-1, 81, 100, Integer.MAX_VALUE, Integer.MIN_VALUE};

    private PlayTests() {
    }

    static void run() {
        promise4Play();
        promise4NewTilesOnly();
        promise4RefusedChangesNothing();
        promise4Errors();
        promise23Reasons();
        promise23OrderOfReasons();
        promise23EdgesOfTheBoard();
        promise23Errors();
        promise24PlainAndLetterSquares();
        promise24WordSquares();
        promise24Crossings();
        promise24Bonus();
        promise24Refused();
    }

    private static void promise4Play() {
        Check.topic("promise 4");
        CrosswordBoard board = Check.withWords("ae", "ac", "head");
        Check.due("ae", 2, Check.across(board, "ae", 40));
        Check.due("tile 40", 1, board.tile(40));
        Check.due("tile 41", 5, board.tile(41));
        Check.due("tiles on the board", 2, board.count(1));
        Check.due("rack 0, with c and b drawn", "abcfhh", Check.tiles(board, 0));
        Check.due("rack 1", "aacdgh", Check.tiles(board, 1));
        Check.due("bag", "aaaabbbccdddeeeeeeeffggh", Check.tiles(board, 2));
        Check.due("turn", 1, board.count(6));
        Check.due("plays so far", 1, board.count(7));
        Check.due("score 0", 2, board.score(0));
        Check.due("score 1", 0, board.score(1));
        Check.due("ac, down", 4, Check.down(board, "ac", 40));
        Check.due("rack 1, with d drawn", "aaddgh", Check.tiles(board, 1));
        Check.due("score 0", 2, board.score(0));
        Check.due("score 1", 4, board.score(1));
        Check.due("turn", 0, board.count(6));
        Check.due("plays so far", 2, board.count(7));
        Check.due("states", 5, board.count(10));
    }

    private static void promise4NewTilesOnly() {
        CrosswordBoard board = Check.withWords("ae", "haed");
        board.pass();
        board.pass();
        Check.across(board, "ae", 40);
        // h and d are the only new tiles, on plain squares.
        Check.due("haed", 8, Check.across(board, "haed", 39));
        Check.due("rack 1 has given h and d, drawn d and e", "aacdeg", Check.tiles(board, 1));
        Check.due("tiles on the board", 4, board.count(1));
    }

    private static void promise4RefusedChangesNothing() {
        CrosswordBoard touched = Check.withWords("ae", "ea", "aa", "af");
        CrosswordBoard twin = Check.withWords("ae", "ea", "aa", "af");
        Check.across(touched, "ae", 40);
        Check.across(twin, "ae", 40);
        Check.due("reason 1", -11, Check.across(touched, "ah", 40));
        Check.due("reason 2", -12, Check.across(touched, "ae", 44));
        Check.due("reason 3", -13, Check.across(touched, "ea", 40));
        Check.due("reason 4", -14, Check.across(touched, "ae", 40));
        Check.due("reason 5", -15, Check.across(touched, "aa", 42));
        Check.due("reason 6", -16, Check.across(touched, "aa", 0));
        Check.due("reason 7", -17, Check.across(touched, "ae", 49));
        Check.due("reason 8", -18, Check.down(touched, "af", 40));
        Check.due("bad code", -2, Check.down(touched, "a", 40));
        Check.due("bad square", -1, Check.down(touched, "af", 81));
        Check.due("all", Check.everything(twin), Check.everything(touched));
    }

    private static void promise4Errors() {
        CrosswordBoard board = Check.withWords("ae");
        for (int code : NO_CODES) {
            Check.due("code " + code, CrosswordBoard.BAD_VALUE, board.play(code, 40, false));
            Check.due("both wrong, " + code, CrosswordBoard.BAD_VALUE, board.play(code, 81, true));
        }
        for (int square : NO_SQUARES) {
            Check.due("square " + square, CrosswordBoard.NO_SUCH, board.play(14, square, false));
            Check.due("square " + square, CrosswordBoard.NO_SUCH, board.play(14, square, true));
            Check.due("unknown word", CrosswordBoard.NO_SUCH, board.play(10, square, true));
        }
        Check.due("states", 1, board.count(10));
        Check.due("plays so far", 0, board.count(7));
    }

    private static void promise23Reasons() {
        Check.topic("promise 23");
        CrosswordBoard board = Check.withWords("ae", "ea", "aa", "af", "ac", "gaed");
        Check.due("none on the center", 0, board.reason(Check.code("ae"), 39, false));
        Check.due("beside the center", 6, board.reason(Check.code("ae"), 38, false));
        Check.across(board, "ae", 40);
        String before = Check.state(board);
        Check.due("1: not in the list", 1, board.reason(Check.code("ah"), 40, false));
        Check.due("2: over the edge", 2, board.reason(Check.code("ae"), 44, false));
        Check.due("3: another letter first", 3, board.reason(Check.code("ea"), 40, false));
        Check.due("3: another letter last", 3, board.reason(Check.code("aa"), 32, true));
        Check.due("4: no new tile", 4, board.reason(Check.code("ae"), 40, false));
        Check.due("5: tile before, across", 5, board.reason(Check.code("aa"), 42, false));
        Check.due("5: tile behind, across", 5, board.reason(Check.code("aa"), 38, false));
        Check.due("5: tile before, down", 5, board.reason(Check.code("aa"), 49, true));
        Check.due("5: tile behind, down", 5, board.reason(Check.code("aa"), 22, true));
        Check.due("5: ends within a run", 5, board.reason(Check.code("aa"), 39, false));
        Check.due("6: apart from all tiles", 6, board.reason(Check.code("aa"), 0, false));
        Check.due("6: at the corner only", 6, board.reason(Check.code("aa"), 51, true));
        Check.due("7: ee is no word", 7, board.reason(Check.code("ae"), 49, false));
        Check.due("8: no f", 8, board.reason(Check.code("af"), 40, true));
        Check.due("8: no e, the first letter", 8, board.reason(Check.code("ea"), 31, true));
        Check.due("0: c down", 0, board.reason(Check.code("ac"), 40, true));
        Check.due("0: g and d round ae", 0, board.reason(Check.code("gaed"), 39, false));
        Check.due("nothing is changed", before, Check.state(board));
        // By a swap the rack 0 becomes bcdeee.
        CrosswordBoard rack = Check.withWords("bb", "be", "ab", "ee");
        rack.swap();
        rack.pass();
        Check.due("8: one b for two", 8, rack.reason(Check.code("bb"), 40, false));
        Check.due("8: no a", 8, rack.reason(Check.code("ab"), 40, false));
        Check.due("0: one b", 0, rack.reason(Check.code("be"), 40, false));
        Check.due("0: two of three e", 0, rack.reason(Check.code("ee"), 40, false));
    }

    private static void promise23OrderOfReasons() {
        CrosswordBoard board = Check.withWords("ae", "gaed", "ff", "ffffff");
        Check.due("not in the list before over the edge", 1, board.reason(Check.code("ha"), 80, true));
        Check.across(board, "ae", 40);
        Check.due("over the edge before another letter", 2,
            board.reason(Check.code("ffffff"), 40, false));
        Check.due("another letter before tile behind", 3, board.reason(Check.code("ff"), 39, false));
        Check.due("tile behind before no tiles", 5, board.reason(Check.code("ff"), 38, false));
        Check.due("no anchor before no tiles", 6, board.reason(Check.code("ff"), 0, false));
        Check.due("crossing before no tiles", 7, board.reason(Check.code("ff"), 49, false));
        Check.across(board, "gaed", 39);
        Check.due("no new tile before tile behind", 4, board.reason(Check.code("ae"), 40, false));
    }

    private static void promise23EdgesOfTheBoard() {
        CrosswordBoard board = Check.withWords("ae", "aaefhh", "aaacdgh");
        Check.due("up to the last column", 0, board.reason(Check.code("aaefhh"), 39, false));
        Check.due("beyond the last column", 2, board.reason(Check.code("aaefhh"), 40, false));
        Check.due("up to the last row", 0, board.reason(Check.code("aaefhh"), 31, true));
        Check.due("beyond the last row", 2, board.reason(Check.code("aaefhh"), 40, true));
        Check.due("last square, across", 2, board.reason(Check.code("ae"), 80, false));
        Check.due("last square, down", 2, board.reason(Check.code("ae"), 80, true));
        Check.due("last but one, across", 6, board.reason(Check.code("ae"), 79, false));
        Check.due("last but one, down", 6, board.reason(Check.code("ae"), 71, true));
        Check.across(board, "aaefhh", 39);
        // 45 begins the row 5: behind 44, which has a tile, in number but not on the board.
        Check.due("the next row is no neighbour", 6, board.reason(Check.code("ae"), 45, false));
    }

    private static void promise23Errors() {
        CrosswordBoard board = Check.withWords("ae");
        for (int code : NO_CODES) {
            Check.due("code " + code, CrosswordBoard.BAD_VALUE, board.reason(code, 40, false));
            Check.due("both wrong", CrosswordBoard.BAD_VALUE, board.reason(code, -1, false));
        }
        for (int square : NO_SQUARES) {
            Check.due("square " + square, CrosswordBoard.NO_SUCH, board.reason(14, square, true));
            Check.due("unknown word", CrosswordBoard.NO_SUCH, board.reason(10, square, true));
        }
    }

    private static void promise24PlainAndLetterSquares() {
        Check.topic("promise 24");
        CrosswordBoard board = Check.withWords("head", "beach", "abcdefg", "ab");
        Check.due("head on plain squares", 8, board.worth(Check.code("head"), 40, false));
        Check.due("all values", 16, board.worth(Check.code("abcdefg"), 37, false));
        Check.due("h on (4,8)", 19, board.worth(Check.code("beach"), 40, false));
        Check.due("b on (4,0)", 15, board.worth(Check.code("beach"), 36, false));
        Check.due("b on (0,4)", 15, board.worth(Check.code("beach"), 4, true));
        Check.due("h on (8,4)", 19, board.worth(Check.code("beach"), 40, true));
        Check.due("the center is plain", 3, board.worth(Check.code("ab"), 40, true));
        CrosswordBoard above = Check.withWords("aaefh", "ha", "ah");
        Check.down(above, "aaefh", 4);
        Check.due("h on (1,3)", 13, above.worth(Check.code("ha"), 12, false));
        Check.due("h on (1,5)", 13, above.worth(Check.code("ah"), 13, false));
        CrosswordBoard below = Check.withWords("aaefh", "hf", "fh");
        Check.down(below, "aaefh", 40);
        Check.due("h on (7,3)", 16, below.worth(Check.code("hf"), 66, false));
        Check.due("h on (7,5)", 16, below.worth(Check.code("fh"), 67, false));
        CrosswordBoard left = Check.withWords("aaefh", "ha", "ah");
        Check.across(left, "aaefh", 36);
        Check.due("h on (3,1)", 13, left.worth(Check.code("ha"), 28, true));
        Check.due("h on (5,1)", 13, left.worth(Check.code("ah"), 37, true));
        CrosswordBoard right = Check.withWords("aaefh", "hf", "fh");
        Check.across(right, "aaefh", 40);
        Check.due("h on (3,7)", 16, right.worth(Check.code("hf"), 34, true));
        Check.due("h on (5,7)", 16, right.worth(Check.code("fh"), 43, true));
    }

    private static void promise24WordSquares() {
        CrosswordBoard one = Check.withWords("ae", "he");
        Check.across(one, "ae", 40);
        Check.due("h on (3,5)", 10, one.worth(Check.code("he"), 32, true));
        Check.down(one, "he", 32);
        one.addWord(Check.code("heh"));
        Check.due("h new on (5,5), the one on (3,5) no longer", 18,
            one.worth(Check.code("heh"), 32, true));
        CrosswordBoard two = Check.withWords("ae", "cad", "aae");
        Check.down(two, "ae", 40);
        Check.due("c on (3,3), d on (3,5), a before ae", 27,
            two.worth(Check.code("cad"), 30, false));
    }

    private static void promise24Crossings() {
        CrosswordBoard board = Check.withWords("ae", "ha");
        Check.across(board, "ae", 40);
        // (4 + 1) * 2 for ha, 4 + 1 for h over a, (1 + 1) * 2 for a on (3,5) over e.
        Check.due("ha over ae", 19, board.worth(Check.code("ha"), 31, false));
        CrosswordBoard edge = Check.withWords("haha", "hahaa", "ac");
        Check.due("haha needs two of h", 10, edge.play(Check.code("haha"), 40, false));
        // a on the letter square (4,8): 3 + 3 for ac, 10 + 3 for hahaa.
        Check.due("ac behind haha", 19, edge.worth(Check.code("ac"), 44, true));
        Check.due("made", 19, edge.play(Check.code("ac"), 44, true));
        edge.addWord(Check.code("ahahaa"));
        Check.due("a used letter square is plain", 12, edge.worth(Check.code("ahahaa"), 39, false));
    }

    private static void promise24Bonus() {
        CrosswordBoard board = Check.withWords("hhhhh", "hhhhhh", "hhhhhhh", "aaefhh", "ae");
        Check.due("5 new tiles", 20, board.worth(Check.code("hhhhh"), 37, false));
        Check.due("6 new tiles", 24 + 15, board.worth(Check.code("hhhhhh"), 37, false));
        Check.due("7 new tiles", 28, board.worth(Check.code("hhhhhhh"), 37, false));
        Check.due("7 new tiles, with (4,0)", 36, board.worth(Check.code("hhhhhhh"), 36, false));
        Check.due("made", 32, Check.across(board, "aaefhh", 36));
        CrosswordBoard seven = Check.withWords("ae", "hhhahhh");
        Check.across(seven, "ae", 40);
        // The column 4 has its letter squares in the rows 0 and 8.
        Check.due("7 letters, 6 new", 25 + 15, seven.worth(Check.code("hhhahhh"), 13, true));
        CrosswordBoard five = Check.withWords("ae", "hhaehhh");
        Check.across(five, "ae", 40);
        Check.due("7 letters, 5 new, h on (4,8)", 30, five.worth(Check.code("hhaehhh"), 38, false));
    }

    private static void promise24Refused() {
        CrosswordBoard board = Check.withWords("ae", "ea", "aa", "af", "hhhhhhh");
        Check.due("the rack does not count", 28, board.worth(Check.code("hhhhhhh"), 13, true));
        Check.across(board, "ae", 40);
        Check.due("1", CrosswordBoard.NONE, board.worth(Check.code("ah"), 40, false));
        Check.due("2", CrosswordBoard.NONE, board.worth(Check.code("ae"), 44, false));
        Check.due("3", CrosswordBoard.NONE, board.worth(Check.code("ea"), 40, false));
        Check.due("4", CrosswordBoard.NONE, board.worth(Check.code("ae"), 40, false));
        Check.due("5", CrosswordBoard.NONE, board.worth(Check.code("aa"), 42, false));
        Check.due("6", CrosswordBoard.NONE, board.worth(Check.code("aa"), 0, false));
        Check.due("7", CrosswordBoard.NONE, board.worth(Check.code("ae"), 49, false));
        Check.due("8 does not count", 5, board.worth(Check.code("af"), 40, true));
        for (int code : NO_CODES) {
            Check.due("code " + code, CrosswordBoard.BAD_VALUE, board.worth(code, 40, false));
            Check.due("both wrong", CrosswordBoard.BAD_VALUE, board.worth(code, -1, false));
        }
        for (int square : NO_SQUARES) {
            Check.due("square " + square, CrosswordBoard.NO_SUCH, board.worth(14, square, true));
        }
    }
}
