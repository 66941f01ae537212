/** Promises 5 (pass), 6 (swap), 20 (tiles), 21 (score), 27 (average), and 4 with an empty bag. */
final class TurnTests {
    private TurnTests() {
    }

    static void run() {
        promise5Pass();
        promise6Swap();
        promise6ShortBag();
        promise6BagOfSix();
        promise4EmptyBag();
        promise20Tiles();
        promise21Score();
        promise27Average();
    }

    private static void promise5Pass() {
        Check.topic("promise 5");
        CrosswordBoard board = Check.withWords("ae");
        Check.due("pass of 0", 1, board.pass());
        Check.due("turn", 1, board.count(6));
        Check.due("passes", 1, board.count(8));
        Check.due("pass of 1", 0, board.pass());
        Check.due("turn", 0, board.count(6));
        Check.due("passes", 2, board.count(8));
        Check.due("plays", 0, board.count(7));
        Check.due("swaps", 0, board.count(9));
        Check.due("states", 3, board.count(10));
        Check.due("rack 0", "aaefhh", Check.tiles(board, 0));
        Check.due("rack 1", "aacdgh", Check.tiles(board, 1));
        Check.due("score 0", 0, board.score(0));
        Check.due("score 1", 0, board.score(1));
        board.pass();
        Check.due("player 1 has no e", -18, Check.across(board, "ae", 40));
        board.pass();
        Check.due("player 0 has one", 2, Check.across(board, "ae", 40));
        Check.due("score 0", 2, board.score(0));
        Check.due("score 1", 0, board.score(1));
    }

    private static void promise6Swap() {
        Check.topic("promise 6");
        CrosswordBoard board = new CrosswordBoard();
        Check.due("swap of 0", 6, board.swap());
        Check.due("rack 0: c b d e e e drawn", "bcdeee", Check.tiles(board, 0));
        Check.due("rack 1", "aacdgh", Check.tiles(board, 1));
        Check.due("bag: aaefhh come in after that", "aaaaaabbbccddeeeeefffgghhh",
            Check.tiles(board, 2));
        Check.due("turn", 1, board.count(6));
        Check.due("swaps", 1, board.count(9));
        Check.due("plays", 0, board.count(7));
        Check.due("passes", 0, board.count(8));
        Check.due("states", 1, board.count(10));
        Check.due("swap of 1", 6, board.swap());
        Check.due("turn", 0, board.count(6));
        Check.due("swaps", 2, board.count(9));
        Check.due("in the bag", 26, board.count(2));
        Check.due("rack 0", "bcdeee", Check.tiles(board, 0));
        // The drawing goes on with the next x, from the bag as it is then.
        Check.due("rack 1", drawn(26, "aaaaaabbbccddeeeeefffgghhh"), Check.tiles(board, 1));
    }

    /** Six tiles from a bag with these letters, after so many tiles less 8 have been drawn. */
    private static String drawn(int numberBefore, String bag) {
        int x = 1;
        for (int i = 0; i < numberBefore - 8; i++) {
            x = (x * 75 + 74) % 65537;
        }
        StringBuilder rest = new StringBuilder(bag);
        char[] got = new char[6];
        for (int i = 0; i < 6; i++) {
            x = (x * 75 + 74) % 65537;
            int index = x % rest.length();
            got[i] = rest.charAt(index);
            rest.deleteCharAt(index);
        }
        java.util.Arrays.sort(got);
        return new String(got);
    }

    /** A board after the first of twelve plays, which leave 2 tiles in the bag. */
    private static CrosswordBoard afterPlays(int number) {
        CrosswordBoard board = Check.withWords("aa", "ae", "ea", "ee", "ab", "ha", "he", "ad", "de",
            "be", "ca", "ed", "af", "ga", "eg", "deed", "head", "cage", "beef");
        String[] words = {"ha", "ha", "ha", "cage", "be", "ed", "be", "deed", "af", "ab", "af", "eg"};
        int[] squares = {31, 23, 15, 39, 7, 56, 7, 65, 59, 51, 43, 67};
        String directions = "vvvvvv>>>>>v";
        for (int i = 0; i < number; i++) {
            int score = board.play(Check.code(words[i]), squares[i], directions.charAt(i) == 'v');
            Check.isTrue("the play " + i + " is made", score > 0);
        }
        return board;
    }

    private static void promise6ShortBag() {
        CrosswordBoard board = afterPlays(10);
        Check.due("tiles in the bag", 5, board.count(2));
        String before = Check.everything(board);
        Check.due("swap", CrosswordBoard.NOT_POSSIBLE, board.swap());
        Check.due("nothing is changed", before, Check.everything(board));
    }

    private static void promise6BagOfSix() {
        CrosswordBoard board = afterPlays(9);
        Check.due("ed, d on (8,4)", 7, Check.down(board, "ed", 67));
        Check.due("tiles in the bag", 6, board.count(2));
        String rack = Check.tiles(board, 0);
        String bag = Check.tiles(board, 2);
        Check.due("swap of all there are", 6, board.swap());
        Check.due("rack", bag, Check.tiles(board, 0));
        Check.due("bag", rack, Check.tiles(board, 2));
    }

    private static void promise4EmptyBag() {
        Check.topic("promise 4");
        CrosswordBoard board = afterPlays(12);
        Check.due("rack 0", "bccdee", Check.tiles(board, 0));
        Check.due("bag", "cg", Check.tiles(board, 2));
        board.addWord(Check.code("edb"));
        board.play(Check.code("edb"), 72, false);
        Check.due("rack 0 has given three tiles and drawn two", "ccceg", Check.tiles(board, 0));
        Check.due("bag", "", Check.tiles(board, 2));
        Check.topic("promise 6");
        Check.due("swap of 6 tiles", CrosswordBoard.NOT_POSSIBLE, board.swap());
        board.pass();
        Check.due("swap of 5 tiles", CrosswordBoard.NOT_POSSIBLE, board.swap());
        Check.due("turn", 0, board.count(6));
        Check.due("swaps", 0, board.count(9));
    }

    private static void promise20Tiles() {
        Check.topic("promise 20");
        CrosswordBoard board = new CrosswordBoard();
        int[][] due = {
            {2, 0, 0, 0, 1, 1, 0, 2},
            {2, 0, 1, 1, 0, 0, 1, 1},
            {4, 4, 3, 3, 7, 2, 2, 1},
        };
        for (int player = 0; player <= 2; player++) {
            for (int letter = 1; letter <= 8; letter++) {
                Check.due("tiles " + player + " " + letter, due[player][letter - 1],
                    board.tiles(player, letter));
            }
        }
        int[] noPlayers = {-1, 3, 100, Integer.MAX_VALUE, Integer.MIN_VALUE};
        for (int player : noPlayers) {
            Check.due("player " + player, CrosswordBoard.NO_SUCH, board.tiles(player, 1));
        }
        int[] noLetters = {0, 9, -1, 97, Integer.MAX_VALUE, Integer.MIN_VALUE};
        for (int letter : noLetters) {
            for (int player = 0; player <= 2; player++) {
                Check.due("letter " + letter, CrosswordBoard.NO_SUCH, board.tiles(player, letter));
            }
        }
    }

    private static void promise21Score() {
        Check.topic("promise 21");
        CrosswordBoard board = Check.withWords("ae", "ac", "ha");
        Check.across(board, "ae", 40);
        Check.down(board, "ac", 40);
        Check.due("score 0", 2, board.score(0));
        Check.due("score 1", 4, board.score(1));
        Check.due("ha down over ac is refused", -15, Check.down(board, "ha", 22));
        Check.due("score 0", 2, board.score(0));
        Check.due("h before ac is no word", -13, Check.across(board, "ha", 49));
        board.addWord(Check.code("hac"));
        Check.due("hac", 8, Check.down(board, "hac", 31));
        Check.due("score 0", 10, board.score(0));
        Check.due("score 1", 4, board.score(1));
        int[] noPlayers = {-1, 2, 3, Integer.MAX_VALUE, Integer.MIN_VALUE};
        for (int player : noPlayers) {
            Check.due("player " + player, CrosswordBoard.NO_SUCH, board.score(player));
        }
    }

    private static void promise27Average() {
        Check.topic("promise 27");
        CrosswordBoard board = Check.withWords("ae", "ac", "hac", "aed");
        Check.isTrue("0 without plays", board.average() == 0.0f);
        board.pass();
        board.pass();
        Check.isTrue("0 with passes alone", board.average() == 0.0f);
        Check.across(board, "ae", 40);
        Check.isTrue("2 / 1", board.average() == 2.0f);
        Check.down(board, "ac", 40);
        Check.isTrue("6 / 2", board.average() == 3.0f);
        board.pass();
        board.pass();
        Check.isTrue("passes are no plays", board.average() == 3.0f);
        Check.due("hac", 8, Check.down(board, "hac", 31));
        Check.isTrue("14 / 3 as a float", board.average() == 14.0f / 3.0f);
        Check.due("aed", 4, Check.across(board, "aed", 40));
        Check.isTrue("18 / 4", board.average() == 4.5f);
        board.undo();
        Check.isTrue("14 / 3 again", board.average() == 14.0f / 3.0f);
    }
}
