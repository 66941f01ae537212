/** The edges of the section 'Letters, words' and of the promises 2 (addWord), 3 (dropWord), 15 (word). */
final class LetterEdges {
    /** The first and the last code of each length of a word, and some between. */
    static final int[] CODES = {
        10, 11, 17, 19, 26, 73, 80, 91, 98, 728, 820, 6560, 7381, 59048, 66430, 531440,
        597871, 597878, 4782961, 4782968,
    };
    /** No codes: too short, too long, with a digit 0 at the end or inside, below 0. */
    static final int[] NO_CODES = {
        0, 1, 8, 9, 18, 72, 81, 82, 89, 90, 729, 730, 819, 6561, 7380, 7372, 59049, 66429, 66421,
        531441, 597870, 597862, 597142, 66430 + 531441 * 9, 4782969, 5380839, 5380840, 43046720,
        43046721, 48427561, 387420488, -1, -8, -10, -17, -175, -4782968, Integer.MAX_VALUE,
        Integer.MAX_VALUE - 1, Integer.MIN_VALUE, Integer.MIN_VALUE + 1,
    };

    private LetterEdges() {
    }

    static void run() {
        Check.topic("letters and words");
        valueOfEachLetter();
        codesOfWords();
        noCodesOfWords();
        twentyWords();
        sameWordTwice();
        orderOfErrors();
        numbersBecomeLess();
        droppingKeepsTheBoard();
        wordNumbers();
    }

    /** "Their values are: a 1, b 2, c 3, d 2, e 1, f 4, g 3, h 4." */
    private static void valueOfEachLetter() {
        int[] values = {1, 2, 3, 2, 1, 4, 3, 4};
        for (int letter = 1; letter <= 8; letter++) {
            CrosswordBoard board = new CrosswordBoard();
            int code = 10 * letter;
            board.addWord(code);
            // (4,4) and (4,5) are plain squares.
            Check.due("two of letter " + letter, 2 * values[letter - 1], board.worth(code, 40, false));
        }
    }

    /** "A word has 2 to 7 letters; its code is the number that is written, in base 9, ..." */
    private static void codesOfWords() {
        CrosswordBoard board = new CrosswordBoard();
        for (int i = 0; i < CODES.length; i++) {
            int code = CODES[i];
            Check.due("drop " + code, CrosswordBoard.NO_SUCH, board.dropWord(code));
            Check.due("play " + code, -11, board.play(code, 40, false));
            Check.due("reason " + code, 1, board.reason(code, 40, true));
            Check.due("worth " + code, CrosswordBoard.NONE, board.worth(code, 40, true));
            Check.due("add " + code, i, board.addWord(code));
            Check.due("word " + i, code, board.word(i));
        }
        Check.due("words", 20, board.count(0));
        for (int code : CODES) {
            Check.due("drop " + code, 0, board.dropWord(code));
        }
        Check.due("words", 0, board.count(0));
    }

    /** "BAD_VALUE if code is not the code of a word", in all five methods, ahead of other errors. */
    private static void noCodesOfWords() {
        for (int code : NO_CODES) {
            CrosswordBoard board = Check.withWords("aa", "hhhhhhh");
            Check.due("add " + code, CrosswordBoard.BAD_VALUE, board.addWord(code));
            Check.due("drop " + code, CrosswordBoard.BAD_VALUE, board.dropWord(code));
            for (int square : new int[] {-1, 0, 40, 80, 81}) {
                Check.due("play " + code, CrosswordBoard.BAD_VALUE, board.play(code, square, false));
                Check.due("reason " + code, CrosswordBoard.BAD_VALUE,
                    board.reason(code, square, true));
                Check.due("worth " + code, CrosswordBoard.BAD_VALUE,
                    board.worth(code, square, false));
            }
            Check.due("words", 2, board.count(0));
            Check.due("states", 2, board.count(10));
        }
    }

    private static CrosswordBoard fullList() {
        CrosswordBoard board = new CrosswordBoard();
        for (int code : CODES) {
            board.addWord(code);
        }
        return board;
    }

    /** "The list has up to 20 different words"; "TOO_MANY if there are 20 words." */
    private static void twentyWords() {
        CrosswordBoard board = fullList();
        Check.due("20 words", 20, board.count(0));
        Check.due("the 21st", CrosswordBoard.TOO_MANY, board.addWord(12));
        Check.due("20 words", 20, board.count(0));
        Check.due("drop one", 7, board.dropWord(CODES[7]));
        Check.due("the 20th", 19, board.addWord(12));
        Check.due("the 21st", CrosswordBoard.TOO_MANY, board.addWord(CODES[7]));
        Check.due("word 19", 12, board.word(19));
        // The last of 20 words comes back with the state, as all others do.
        board.save();
        Check.due("drop the last", 19, board.dropWord(12));
        Check.due("undo", 4, board.undo());
        Check.due("word 19", 12, board.word(19));
        Check.due("drop the last", 19, board.dropWord(12));
        Check.due("another word 19", 19, board.addWord(13));
        Check.due("restore", 0, board.restore());
        Check.due("word 19", 12, board.word(19));
        Check.due("and no word 20", CrosswordBoard.NO_SUCH, board.word(20));
    }

    /** "NOT_POSSIBLE if the word is in the list already": wherever it stands. */
    private static void sameWordTwice() {
        CrosswordBoard board = fullList();
        for (int code : CODES) {
            Check.due("again " + code, CrosswordBoard.NOT_POSSIBLE, board.addWord(code));
        }
        board.dropWord(CODES[3]);
        Check.due("no longer in the list", 19, board.addWord(CODES[3]));
        Check.due("again", CrosswordBoard.NOT_POSSIBLE, board.addWord(CODES[3]));
    }

    /** "The error codes of a method are listed in the order in which they are checked". */
    private static void orderOfErrors() {
        CrosswordBoard full = fullList();
        Check.due("BAD_VALUE before TOO_MANY", CrosswordBoard.BAD_VALUE, full.addWord(9));
        Check.due("NOT_POSSIBLE before TOO_MANY", CrosswordBoard.NOT_POSSIBLE, full.addWord(10));
        Check.due("BAD_VALUE before NO_SUCH", CrosswordBoard.BAD_VALUE,
            new CrosswordBoard().dropWord(9));
        Check.due("an empty list has no such word", CrosswordBoard.NO_SUCH,
            new CrosswordBoard().dropWord(10));
    }

    /** "when a word is dropped, the numbers of the words behind it become less by 1." */
    private static void numbersBecomeLess() {
        for (int dropped = 0; dropped < 20; dropped++) {
            CrosswordBoard board = fullList();
            Check.due("the number it had", dropped, board.dropWord(CODES[dropped]));
            Check.due("words", 19, board.count(0));
            for (int number = 0; number < 19; number++) {
                Check.due("word " + number + " without " + dropped,
                    CODES[number < dropped ? number : number + 1], board.word(number));
            }
            Check.due("no word 19", CrosswordBoard.NO_SUCH, board.word(19));
            Check.due("dropped again", CrosswordBoard.NO_SUCH, board.dropWord(CODES[dropped]));
            Check.due("added at the end", 19, board.addWord(CODES[dropped]));
        }
        CrosswordBoard one = Check.withWords("ab");
        Check.due("the only word", 0, one.dropWord(11));
        Check.due("no word is left", 0, one.count(0));
        Check.due("no word 0", CrosswordBoard.NO_SUCH, one.word(0));
    }

    /** "Drops a word from the list; the tiles on the board do not change." */
    private static void droppingKeepsTheBoard() {
        FreeGame game = FreeGame.ofSixes(6);
        CrosswordBoard board = game.board;
        int[] tiles = new int[81];
        for (int square = 0; square < 81; square++) {
            tiles[square] = board.tile(square);
        }
        for (int number = board.count(0); number > 0; number--) {
            Check.due("drop", 0, board.dropWord(board.word(0)));
        }
        for (int square = 0; square < 81; square++) {
            Check.due("tile " + square, tiles[square], board.tile(square));
        }
        Check.due("runs", 12, board.count(4));
        Check.due("none of them is a word", 12, board.count(5));
    }

    /** "NO_SUCH if there is no such word": the numbers from 0 to one less than there are. */
    private static void wordNumbers() {
        CrosswordBoard board = new CrosswordBoard();
        for (int size = 0; size <= 20; size++) {
            Check.due("word -1 of " + size, CrosswordBoard.NO_SUCH, board.word(-1));
            Check.due("behind " + size, CrosswordBoard.NO_SUCH, board.word(size));
            Check.due("the last of " + size, size == 0 ? CrosswordBoard.NO_SUCH : CODES[size - 1],
                board.word(size - 1));
            Check.due("far behind", CrosswordBoard.NO_SUCH, board.word(Integer.MAX_VALUE));
            Check.due("far before", CrosswordBoard.NO_SUCH, board.word(Integer.MIN_VALUE));
            if (size < 20) {
                board.addWord(CODES[size]);
            }
        }
    }
}
