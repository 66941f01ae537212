/** Counts the checks of a test run and tells those that went wrong; small helpers for all tests. */
final class Check {
    private static int wrong = 0;
    private static int checks = 0;
    private static String topic = "";

    private Check() {
    }

    static void topic(String newTopic) {
        topic = newTopic;
    }

    static void due(String what, long want, long got) {
        checks++;
        if (want != got) {
            tell(what + " answered " + got + ", due is " + want);
        }
    }

    static void due(String what, String want, String got) {
        checks++;
        if (!want.equals(got)) {
            tell(what + ":\n    got " + got + "\n    due " + want);
        }
    }

    static void isTrue(String what, boolean holds) {
        checks++;
        if (!holds) {
            tell(what + " does not hold");
        }
    }

    private static void tell(String text) {
        wrong++;
        if (wrong <= 40) {
            System.out.println(topic + ": " + text);
        }
    }

    static int wrong() {
        return wrong;
    }

    static int checks() {
        return checks;
    }

    /** The code of a word, by the document: its letters' numbers as digits in base 9. */
    static int code(String word) {
        int code = 0;
        for (char letter : word.toCharArray()) {
            code = 9 * code + (letter - 'a' + 1);
        }
        return code;
    }

    /** An object with these words in its list. */
    static CrosswordBoard withWords(String... words) {
        CrosswordBoard board = new CrosswordBoard();
        for (String word : words) {
            board.addWord(code(word));
        }
        return board;
    }

    static int across(CrosswordBoard board, String word, int square) {
        return board.play(code(word), square, false);
    }

    static int down(CrosswordBoard board, String word, int square) {
        return board.play(code(word), square, true);
    }

    static void write(CrosswordBoard board, String text) {
        for (char character : text.toCharArray()) {
            board.append(character);
        }
    }

    /** A rack (0, 1) or the bag (2) as a text of its letters in alphabetical order. */
    static String tiles(CrosswordBoard board, int player) {
        StringBuilder letters = new StringBuilder();
        for (int letter = 1; letter <= 8; letter++) {
            for (int i = board.tiles(player, letter); i > 0; i--) {
                letters.append((char) ('a' + letter - 1));
            }
        }
        return letters.toString();
    }

    /** The state as far as the queries tell it, without the history: some 140 calls. */
    static String state(CrosswordBoard board) {
        StringBuilder text = new StringBuilder("words");
        for (int number = 0; number < board.count(0); number++) {
            text.append(' ').append(board.word(number));
        }
        text.append(" board ");
        for (int square = 0; square < 81; square++) {
            text.append(board.tile(square));
        }
        for (int player = 0; player <= 2; player++) {
            text.append(' ').append(tiles(board, player));
        }
        text.append(" scores ").append(board.score(0)).append(' ').append(board.score(1));
        text.append(" turn and numbers");
        for (int what = 6; what <= 9; what++) {
            text.append(' ').append(board.count(what));
        }
        return text.toString();
    }

    /** All that a call may change and a query tells: the state, history, text and latest stop. */
    static String everything(CrosswordBoard board) {
        return state(board) + " history " + board.count(10) + " text " + board.count(11) + " fault "
            + board.fault() + " stop " + board.stopped();
    }
}
