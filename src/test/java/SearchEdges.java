/** The edges of the promises 25 (plays) and 26 (best). */
final class SearchEdges {
    private SearchEdges() {
    }

    static void run() {
        Check.topic("what could be played");
        noWords();
        wordsThatCannotBePlayed();
        eachPlayCountsOnce();
        firstAndLastSquares();
        squaresOfTheBoardAlone();
        greatestScoreBeforeLeastSquare();
        leastSquareBeforeAllElse();
        acrossBeforeLeastNumber();
        leastNumberOfTwentyWords();
        playsOfTheOtherPlayer();
        bestIsOutOfRange();
        reasonEightIsNoPlay();
    }

    private static void best(CrosswordBoard board, int score, int square, int direction, int word) {
        Check.due("best score", score, board.best(0));
        Check.due("best square", square, board.best(1));
        Check.due("best direction", direction, board.best(2));
        Check.due("best word", word, board.best(3));
    }

    private static void none(CrosswordBoard board) {
        Check.due("plays", 0, board.plays());
        for (int what = 0; what <= 3; what++) {
            Check.due("best " + what, CrosswordBoard.NONE, board.best(what));
        }
    }

    /** "over all words of the list": without words there is no play. */
    private static void noWords() {
        none(new CrosswordBoard());
        CrosswordBoard board = Check.withWords("ae");
        board.dropWord(14);
        none(board);
        board.undo();
        Check.due("plays", 4, board.plays());
    }

    /** "NONE if there is no play that is not refused." */
    private static void wordsThatCannotBePlayed() {
        // The rack 0 is aaefhh.
        none(Check.withWords("bb", "aaa", "hhhhhhh", "eee"));
        CrosswordBoard board = Check.withWords("ae");
        board.play(14, 40, false);
        // The player 1 has no e, and can put but an a on the word square (3,5), over the old e.
        Check.due("one play", 1, board.plays());
        best(board, 4, 32, 1, 0);
        board.play(14, 32, true);
        board.pass();
        // He has still no e, and ae stands across and down over the only one.
        none(board);
    }

    /** "Returns the number of plays ... over all words of the list, squares and directions." */
    private static void eachPlayCountsOnce() {
        for (int length = 2; length <= 5; length++) {
            CrosswordBoard board = Check.withWords("fahea".substring(0, length));
            Check.due("plays of " + length + " letters", 2 * length, board.plays());
        }
        // Of six letters the first square may be in the lines 0 to 3.
        Check.due("plays of 6 letters", 2 * 4, Check.withWords("aaefhh").plays());
        Check.due("one word and its mirror", 8, Check.withWords("ae", "ea").plays());
        CrosswordBoard board = Check.withWords("ae", "aed");
        Check.across(board, "ae", 40);
        // aed across from 40; ae and aed down from 32, over the e.
        Check.due("three plays", 3, board.plays());
        Check.across(board, "aed", 40);
        // The player 0 has no d: ae down from 32.
        Check.due("one play", 1, board.plays());
    }

    /** Plays that begin on the first square, in the last row and in the last column are looked at. */
    private static void firstAndLastSquares() {
        CrosswordBoard board = Check.withWords("haaefh", "acdgh");
        Check.across(board, "haaefh", 36);
        Check.due("acdgh down to (4,0)", 0, board.reason(Check.code("acdgh"), 0, true));
        board.dropWord(Check.code("haaefh"));
        // Up from the h on (4,0) and on (4,5), and down from the a on (4,1) and on (4,2).
        Check.due("acdgh", 4, board.plays());
        // With a on the word square (0,0): (1 + 3 + 2 + 3 + 4) * 2. With c on the letter square (1,5)
        // and g on the word square (3,5), or with c on (5,1) and g on (7,1): (1 + 9 + 2 + 3 + 4) * 2.
        best(board, 38, 5, 1, 0);
        CrosswordBoard first = Check.withWords("aaefh", "gcdaa");
        Check.down(first, "aaefh", 4);
        first.dropWord(Check.code("aaefh"));
        // Across, with its last or last but one letter on the a on (0,4) or on (1,4).
        Check.due("gcdaa from 0, 1, 9 and 10", 4, first.plays());
        Check.due("g on the word square (0,0)", 20, first.worth(Check.code("gcdaa"), 0, false));
        // g on the word square (1,1), d and the last a on the letter squares (1,3) and (1,5).
        best(first, (3 + 3 + 6 + 1 + 3) * 2, 10, 0, 0);
        CrosswordBoard last = Check.withWords("aaefhh", "hcdga", "ba");
        Check.across(last, "aaefhh", 39);
        Check.down(last, "hcdga", 44);
        last.dropWord(Check.code("hcdga"));
        last.dropWord(Check.code("aaefhh"));
        // b before the a on (8,8), or over one of the a on (4,3) and (4,4).
        Check.due("ba", 3, last.plays());
        Check.due("b before the last square", 3, last.worth(Check.code("ba"), 79, false));
        // b on the word square (3,3).
        best(last, 6, 30, 1, 0);
    }

    /** Just the plays on squares of the board that have no reason: none in a row below the row 8. */
    private static void squaresOfTheBoardAlone() {
        CrosswordBoard board = Check.withWords("haaefh", "hcdga");
        Check.across(board, "haaefh", 36);
        Check.isTrue("hcdga down to (8,0)", Check.down(board, "hcdga", 36) > 0);
        board.dropWord(Check.code("haaefh"));
        board.dropWord(Check.code("hcdga"));
        // If there were a row 9, the two letters could be put there, below "hcdga".
        String two = Check.tiles(board, 0).substring(0, 2);
        String[] words = {two, "hcdga" + two.charAt(0)};
        board.addWord(Check.code(words[0]));
        board.addWord(Check.code(words[1]));
        int plays = 0;
        for (String word : words) {
            for (int square = 0; square <= 80; square++) {
                plays += board.reason(Check.code(word), square, false) == 0 ? 1 : 0;
                plays += board.reason(Check.code(word), square, true) == 0 ? 1 : 0;
            }
        }
        Check.due("plays", plays, board.plays());
    }

    /** "of the plays that are not refused the one with the greatest score": wherever it is. */
    private static void greatestScoreBeforeLeastSquare() {
        CrosswordBoard board = Check.withWords("aaefh", "ae");
        // h on the letter square (4,8) or (8,4) counts 12: across from 40 comes first of the two.
        best(board, 1 + 1 + 1 + 4 + 12, 40, 0, 0);
        board.dropWord(Check.code("aaefh"));
        best(board, 2, 31, 1, 0);
    }

    /** "of several, the one with the least square": before the direction and before the number. */
    private static void leastSquareBeforeAllElse() {
        // fhha counts 13, from 13 at the least; afhea too, with an a on (0,4), from 4.
        CrosswordBoard board = Check.withWords("fhha", "afhea");
        Check.due("fhha", 13, board.worth(Check.code("fhha"), 13, true));
        Check.due("fhha", 13, board.worth(Check.code("fhha"), 37, false));
        Check.due("afhea", 13, board.worth(Check.code("afhea"), 4, true));
        Check.due("afhea", 13, board.worth(Check.code("afhea"), 36, false));
        best(board, 13, 4, 1, 1);
        // A down play on 13 comes before an across play on 37.
        board.dropWord(Check.code("afhea"));
        best(board, 13, 13, 1, 0);
    }

    /** "of several of those, across before down": before the number of the word. */
    private static void acrossBeforeLeastNumber() {
        CrosswordBoard board = Check.withWords("ae", "aa", "hf", "hh", "fae", "haa");
        Check.across(board, "ae", 40);
        Check.down(board, "aa", 40);
        board.dropWord(Check.code("ae"));
        board.dropWord(Check.code("aa"));
        // From (3,3), a word square: hf down with fae, hh across with haa.
        Check.due("hf down", 22, board.worth(Check.code("hf"), 30, true));
        Check.due("hh across", 22, board.worth(Check.code("hh"), 30, false));
        Check.due("hf across is refused", 7, board.reason(Check.code("hf"), 30, false));
        Check.due("hh down is refused", 7, board.reason(Check.code("hh"), 30, true));
        best(board, 22, 30, 0, 1);
        board.dropWord(Check.code("hh"));
        best(board, 22, 30, 1, 0);
    }

    /** "of several of those, the one whose word has the least number": of 20 words. */
    private static void leastNumberOfTwentyWords() {
        CrosswordBoard board = new CrosswordBoard();
        for (int i = 0; i < 18; i++) {
            board.addWord(Check.code("bba") + i % 8 + i / 8 * 9);
        }
        board.addWord(Check.code("hf"));
        Check.due("20 words", 19, board.addWord(Check.code("fh")));
        best(board, 8, 31, 1, 18);
        board.dropWord(Check.code("hf"));
        best(board, 8, 31, 1, 18);
        board.addWord(Check.code("hf"));
        Check.due("plays of the words 18 and 19", 8, board.plays());
        best(board, 8, 31, 1, 18);
        board.addWord(Check.code("hh"));
        board.dropWord(Check.code("fh"));
        board.addWord(Check.code("hh"));
        best(board, 8, 31, 1, 18);
        Check.due("word 18", Check.code("hf"), board.word(18));
    }

    /** "of the player whose turn it is". */
    private static void playsOfTheOtherPlayer() {
        CrosswordBoard board = Check.withWords("fe", "cd");
        Check.due("fe of the player 0", 4, board.plays());
        best(board, 5, 31, 1, 0);
        board.pass();
        Check.due("cd of the player 1", 4, board.plays());
        best(board, 5, 31, 1, 1);
        board.swap();
        board.undo();
        Check.due("cd of the player 1", 4, board.plays());
    }

    /** "BAD_VALUE if what is out of range": 0 to 3; also where there is no play. */
    private static void bestIsOutOfRange() {
        int[] wrong = {-1, -2, -5, 4, 5, 40, 256, Integer.MAX_VALUE, Integer.MIN_VALUE};
        for (int what : wrong) {
            Check.due("best " + what, CrosswordBoard.BAD_VALUE, Check.withWords("ae").best(what));
            Check.due("no play, best " + what, CrosswordBoard.BAD_VALUE, new CrosswordBoard().best(what));
        }
    }

    /** A play that only the rack refuses has a worth, but is none of the plays. */
    private static void reasonEightIsNoPlay() {
        CrosswordBoard board = Check.withWords("ae", "hhhhhhh");
        Check.due("worth", 28, board.worth(Check.code("hhhhhhh"), 37, false));
        Check.due("reason", 8, board.reason(Check.code("hhhhhhh"), 37, false));
        Check.due("plays", 4, board.plays());
        best(board, 2, 31, 1, 0);
    }
}
