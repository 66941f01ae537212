/** Promises 2 (addWord), 3 (dropWord) and 15 (word). */
final class WordTests {
    private static final int[] NO_CODES = {
        0, 1, 8, 9, 18, 72, 81, 82, 90, 99, 729, 4782969, 4782970, 5380840, 43046720,
        -1, -10, -175, Integer.MAX_VALUE, Integer.MIN_VALUE,
    };

    private WordTests() {
    }

    static void run() {
        promise2Add();
        promise2WrongCodes();
        promise2FullList();
        promise3Drop();
        promise3Errors();
        promise15Word();
    }

    private static void promise2Add() {
        Check.topic("promise 2");
        CrosswordBoard board = new CrosswordBoard();
        Check.due("bad", 0, board.addWord(175));
        Check.due("aa, the least", 1, board.addWord(10));
        Check.due("hhhhhhh, the greatest", 2, board.addWord(4782968));
        Check.due("ah", 3, board.addWord(17));
        Check.due("a word of 6", 4, board.addWord(66430));
        Check.due("words", 5, board.count(0));
        Check.due("word 0", 175, board.word(0));
        Check.due("word 1", 10, board.word(1));
        Check.due("word 2", 4782968, board.word(2));
        Check.due("states", 5, board.count(10));
        Check.due("again", CrosswordBoard.NOT_POSSIBLE, board.addWord(10));
        Check.due("states after an error", 5, board.count(10));
        Check.due("words after an error", 5, board.count(0));
    }

    private static void promise2WrongCodes() {
        CrosswordBoard board = Check.withWords("ab");
        for (int code : NO_CODES) {
            Check.due("add " + code, CrosswordBoard.BAD_VALUE, board.addWord(code));
        }
        Check.due("words", 1, board.count(0));
        Check.due("states", 1, board.count(10));
    }

    private static void promise2FullList() {
        CrosswordBoard board = new CrosswordBoard();
        int number = 0;
        for (int first = 1; first <= 3; first++) {
            for (int second = 1; second <= 8 && number < 20; second++) {
                Check.due("add " + number, number, board.addWord(9 * first + second));
                number++;
            }
        }
        Check.due("words", 20, board.count(0));
        Check.due("one more", CrosswordBoard.TOO_MANY, board.addWord(Check.code("hh")));
        Check.due("one of the list", CrosswordBoard.NOT_POSSIBLE, board.addWord(10));
        Check.due("no code", CrosswordBoard.BAD_VALUE, board.addWord(9));
        Check.due("states", 5, board.count(10));
        Check.due("words", 20, board.count(0));
        Check.due("last", 19, board.dropWord(Check.code("cd")));
        Check.due("room again", 19, board.addWord(Check.code("hh")));
        Check.due("first", 0, board.dropWord(10));
        Check.due("room again", 19, board.addWord(10));
        Check.due("word 0", 11, board.word(0));
        Check.due("word 18", Check.code("hh"), board.word(18));
        Check.due("word 19", 10, board.word(19));
    }

    private static void promise3Drop() {
        Check.topic("promise 3");
        CrosswordBoard board = Check.withWords("ae", "bad", "ab", "cab", "ha");
        Check.across(board, "ae", 40);
        Check.due("the middle one", 2, board.dropWord(Check.code("ab")));
        Check.due("word 1", Check.code("bad"), board.word(1));
        Check.due("word 2", Check.code("cab"), board.word(2));
        Check.due("word 3", Check.code("ha"), board.word(3));
        Check.due("word 4", CrosswordBoard.NO_SUCH, board.word(4));
        Check.due("the last one", 3, board.dropWord(Check.code("ha")));
        Check.due("the first one", 0, board.dropWord(Check.code("ae")));
        Check.due("words", 2, board.count(0));
        Check.due("tile 40", 1, board.tile(40));
        Check.due("tile 41", 5, board.tile(41));
        Check.due("tiles", 2, board.count(1));
        Check.due("runs that are no word", 1, board.count(5));
        Check.due("states", 5, board.count(10));
        Check.due("added again", 2, board.addWord(Check.code("ae")));
        Check.due("runs that are no word", 0, board.count(5));
    }

    private static void promise3Errors() {
        CrosswordBoard board = Check.withWords("ab");
        for (int code : NO_CODES) {
            Check.due("drop " + code, CrosswordBoard.BAD_VALUE, board.dropWord(code));
        }
        Check.due("not in the list", CrosswordBoard.NO_SUCH, board.dropWord(10));
        Check.due("words", 1, board.count(0));
        Check.due("states", 1, board.count(10));
        Check.due("in the list", 0, board.dropWord(11));
        Check.due("no longer", CrosswordBoard.NO_SUCH, board.dropWord(11));
        Check.due("states", 2, board.count(10));
    }

    private static void promise15Word() {
        Check.topic("promise 15");
        CrosswordBoard board = Check.withWords("bad", "abcdefg");
        Check.due("word 0", 175, board.word(0));
        Check.due("word 1", Check.code("abcdefg"), board.word(1));
        Check.due("behind the last", CrosswordBoard.NO_SUCH, board.word(2));
        Check.due("below 0", CrosswordBoard.NO_SUCH, board.word(-1));
        Check.due("20", CrosswordBoard.NO_SUCH, board.word(20));
        Check.due("greatest", CrosswordBoard.NO_SUCH, board.word(Integer.MAX_VALUE));
        Check.due("least", CrosswordBoard.NO_SUCH, board.word(Integer.MIN_VALUE));
        board.dropWord(175);
        Check.due("word 0", Check.code("abcdefg"), board.word(0));
        Check.due("word 1", CrosswordBoard.NO_SUCH, board.word(1));
    }
}
