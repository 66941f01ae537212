/**
 * The edges of the section 'Racks, bag', and of the promises 4 to 6 as far as they are about racks,
 * 20, 21 and 27.
 */
final class BagEdges {
    private static final int[] SUPPLY = {8, 4, 4, 4, 8, 3, 3, 4};

    private BagEdges() {
    }

    static void run() {
        Check.topic("racks and bag");
        tilesAreNeverLost();
        drawsOfAWholeGame();
        turnsOfAWholeGame();
        bagWithAsManyTilesAsAreMissing();
        bagWithOneTileMore();
        bagWithOneTileLess();
        bagOfOneTile();
        emptyBag();
        emptyRack();
        noTilesAtAll();
        swapOfABagAsLargeAsTheRack();
        swapOfSmallRacks();
        swapOfAnEmptyRackAndBag();
        swapTwiceDrawsFromWhatWasPutAside();
        passWithEmptyRacks();
        playersAndLetters();
        scoresOfTheTwo();
        averageOfNoPlays();
        averageIsNoWholeNumber();
    }

    /** "Altogether there are 38 tiles: 8 with a, 4 each with b, c, d and h, 8 with e, 3 each ..." */
    private static void tilesAreNeverLost() {
        for (int plays = 0; plays <= 6; plays++) {
            CrosswordBoard board = FreeGame.ofSixes(plays).board;
            int[] amounts = new int[9];
            for (int square = 0; square <= 80; square++) {
                amounts[board.tile(square)]++;
            }
            for (int letter = 1; letter <= 8; letter++) {
                int tiles = amounts[letter] + board.tiles(0, letter) + board.tiles(1, letter)
                    + board.tiles(2, letter);
                Check.due("tiles of " + letter, SUPPLY[letter - 1], tiles);
            }
            Check.due("tiles on the board", 6 * plays, board.count(1));
            Check.due("empty squares", 81 - 6 * plays, amounts[0]);
        }
    }

    /** "x becomes (x * 75 + 74) modulo 65537 ... the tile drawn is the one with the index x modulo ..." */
    private static void drawsOfAWholeGame() {
        int[] bag = {26, 20, 14, 8, 2, 0, 0};
        for (int plays = 0; plays <= 6; plays++) {
            FreeGame game = FreeGame.ofSixes(plays);
            Check.due("tiles in the bag", bag[plays], game.board.count(2));
            sameTiles(game);
        }
    }

    private static void sameTiles(FreeGame game) {
        Check.due("rack 0", game.tiles(0), Check.tiles(game.board, 0));
        Check.due("rack 1", game.tiles(1), Check.tiles(game.board, 1));
        Check.due("bag", game.tiles(2), Check.tiles(game.board, 2));
    }

    /** "Then it is the turn of the player 0"; after a play "it is the turn of the other player." */
    private static void turnsOfAWholeGame() {
        for (int plays = 0; plays <= 6; plays++) {
            CrosswordBoard board = FreeGame.ofSixes(plays).board;
            Check.due("turn after " + plays, plays % 2, board.count(6));
            Check.due("plays", plays, board.count(7));
            Check.due("passes", 0, board.count(8));
            Check.due("swaps", 0, board.count(9));
        }
    }

    /** "until the rack has 6 tiles or the bag is empty": both at once. */
    private static void bagWithAsManyTilesAsAreMissing() {
        FreeGame game = FreeGame.ofSixes(4);
        Check.due("in the bag", 2, game.board.count(2));
        game.put(game.rack().substring(0, 2), 28, false);
        Check.due("rack 0", 6, Check.tiles(game.board, 0).length());
        Check.due("in the bag", 0, game.board.count(2));
        sameTiles(game);
    }

    /** "until the rack has 6 tiles": one tile stays in the bag. */
    private static void bagWithOneTileMore() {
        FreeGame game = FreeGame.ofSixes(4);
        oneTileBelow(game, 4);
        Check.due("rack 0", 6, Check.tiles(game.board, 0).length());
        Check.due("in the bag", 1, game.board.count(2));
        sameTiles(game);
    }

    /** "or the bag is empty": the rack is left with 5 tiles. */
    private static void bagWithOneTileLess() {
        FreeGame game = FreeGame.ofSixes(4);
        game.put(game.rack().substring(0, 3), 28, false);
        Check.due("rack 0", 5, Check.tiles(game.board, 0).length());
        Check.due("in the bag", 0, game.board.count(2));
        sameTiles(game);
    }

    /** The last tile is drawn, whatever x is. */
    private static void bagOfOneTile() {
        FreeGame game = FreeGame.ofSixes(4);
        oneTileBelow(game, 4);
        String last = Check.tiles(game.board, 2);
        Check.due("one tile", 1, last.length());
        game.put(game.rack().substring(0, 2), 28, false);
        Check.due("rack 1", 5, Check.tiles(game.board, 1).length());
        Check.isTrue("the last tile is drawn", Check.tiles(game.board, 1).contains(last));
        Check.due("in the bag", 0, game.board.count(2));
        sameTiles(game);
    }

    /** A play with one new tile in the row 8, below the column 1, which has tiles from a row to the row 7. */
    private static void oneTileBelow(FreeGame game, int firstRow) {
        StringBuilder word = new StringBuilder();
        for (int row = firstRow; row <= 7; row++) {
            word.append((char) ('a' + game.board.tile(9 * row + 1) - 1));
        }
        game.put(word.append(game.rack().charAt(0)).toString(), 9 * firstRow + 1, true);
    }

    /** "the player fills the rack" from an empty bag: nothing is drawn, and the play is made all the same. */
    private static void emptyBag() {
        FreeGame game = FreeGame.ofSixes(5);
        Check.due("in the bag", 0, game.board.count(2));
        Check.due("rack 0", 2, Check.tiles(game.board, 0).length());
        Check.due("rack 1", 6, Check.tiles(game.board, 1).length());
        game.put(game.rack().substring(0, 2), 19, false);
        Check.due("rack 1 has given two tiles", 4, Check.tiles(game.board, 1).length());
        sameTiles(game);
    }

    /** "The rack ... has fewer tiles of some letter than the play has new tiles of it": an empty one. */
    private static void emptyRack() {
        FreeGame game = FreeGame.ofSixes(6);
        game.pass();
        CrosswordBoard board = game.board;
        Check.due("turn", 1, board.count(6));
        for (int letter = 1; letter <= 8; letter++) {
            Check.due("rack 1", 0, board.tiles(1, letter));
        }
        Check.due("plays", 0, board.plays());
        Check.due("best", CrosswordBoard.NONE, board.best(0));
        game.list("ab", 73, false);
        Check.due("reason 8", 8, board.reason(Check.code("ab"), 73, false));
        Check.due("play", -18, board.play(Check.code("ab"), 73, false));
        Check.isTrue("worth does not look at the rack", board.worth(Check.code("ab"), 73, false) > 0);
    }

    /** All 38 tiles are on the board. */
    private static void noTilesAtAll() {
        CrosswordBoard board = FreeGame.ofAllTiles().board;
        Check.due("on the board", 38, board.count(1));
        for (int holder = 0; holder <= 2; holder++) {
            for (int letter = 1; letter <= 8; letter++) {
                Check.due("tiles " + holder + " " + letter, 0, board.tiles(holder, letter));
            }
        }
        Check.due("plays", 0, board.plays());
        for (int what = 0; what <= 3; what++) {
            Check.due("best " + what, CrosswordBoard.NONE, board.best(what));
        }
        Check.due("undo", 4, board.undo());
    }

    /** "NOT_POSSIBLE if the bag has fewer tiles than the rack": 6 and 6, then 5 and 6. */
    private static void swapOfABagAsLargeAsTheRack() {
        FreeGame game = FreeGame.ofSixes(3);
        game.put(game.rack().substring(0, 2), 28, false);
        Check.due("in the bag", 6, game.board.count(2));
        Check.due("as many tiles", 6, game.board.swap());
        Check.due("rack 0 has the old bag", game.tiles(2), Check.tiles(game.board, 0));
        Check.due("the bag has the old rack 0", game.tiles(0), Check.tiles(game.board, 2));
        Check.due("swaps", 1, game.board.count(9));
        FreeGame less = FreeGame.ofSixes(3);
        less.put(less.rack().substring(0, 3), 28, false);
        Check.due("in the bag", 5, less.board.count(2));
        Check.due("one tile less", CrosswordBoard.NOT_POSSIBLE, less.board.swap());
        Check.due("turn", 0, less.board.count(6));
        Check.due("swaps", 0, less.board.count(9));
        sameTiles(less);
    }

    /** The same with an empty bag and racks of 6, 2 and 1 tiles. */
    private static void swapOfSmallRacks() {
        FreeGame six = FreeGame.ofSixes(5);
        Check.due("6 tiles, empty bag", CrosswordBoard.NOT_POSSIBLE, six.board.swap());
        FreeGame two = FreeGame.ofSixes(6);
        Check.due("2 tiles, empty bag", CrosswordBoard.NOT_POSSIBLE, two.board.swap());
        oneTileBelow(two, 2);
        two.pass();
        Check.due("turn", 0, two.board.count(6));
        Check.due("rack 0", 1, Check.tiles(two.board, 0).length());
        Check.due("1 tile, empty bag", CrosswordBoard.NOT_POSSIBLE, two.board.swap());
        sameTiles(two);
        FreeGame bagOfTwo = FreeGame.ofSixes(4);
        Check.due("6 tiles, 2 in the bag", CrosswordBoard.NOT_POSSIBLE, bagOfTwo.board.swap());
        sameTiles(bagOfTwo);
    }

    /** An empty bag has not fewer tiles than an empty rack: the swap is made and puts 0 tiles aside. */
    private static void swapOfAnEmptyRackAndBag() {
        FreeGame game = FreeGame.ofSixes(6);
        CrosswordBoard board = game.board;
        game.pass();
        int score = board.score(1);
        Check.due("states", 5, board.count(10));
        Check.due("swap of 1", 0, board.swap());
        Check.due("turn", 0, board.count(6));
        Check.due("swaps", 1, board.count(9));
        Check.due("passes", 1, board.count(8));
        Check.due("plays", 6, board.count(7));
        Check.due("score", score, board.score(1));
        sameTiles(game);
        Check.due("rack 0 has tiles, the bag has none", CrosswordBoard.NOT_POSSIBLE, board.swap());
        Check.due("it is an action", 4, board.undo());
        Check.due("turn", 1, board.count(6));
        Check.due("swaps", 0, board.count(9));
        CrosswordBoard empty = FreeGame.ofAllTiles().board;
        Check.due("swap of 1", 0, empty.swap());
        Check.due("swap of 0", 0, empty.swap());
        Check.due("swap of 1", 0, empty.swap());
        Check.due("turn", 0, empty.count(6));
        Check.due("swaps", 3, empty.count(9));
        Check.due("on the board", 38, empty.count(1));
    }

    /** "the tiles put aside go into the bag", after the rack is filled: then they can be drawn. */
    private static void swapTwiceDrawsFromWhatWasPutAside() {
        FreeGame game = FreeGame.ofSixes(3);
        game.put(game.rack().substring(0, 2), 28, false);
        CrosswordBoard board = game.board;
        String oldBag = game.tiles(2);
        String oldRack0 = game.tiles(0);
        String oldRack1 = game.tiles(1);
        Check.due("turn", 0, board.count(6));
        Check.due("swap of 0", 6, board.swap());
        Check.due("rack 0", oldBag, Check.tiles(board, 0));
        Check.due("swap of 1", 6, board.swap());
        Check.due("rack 1", oldRack0, Check.tiles(board, 1));
        Check.due("bag", oldRack1, Check.tiles(board, 2));
        Check.due("turn", 0, board.count(6));
        Check.due("swaps", 2, board.count(9));
    }

    /** "Lets the player whose turn it is pass": with no tiles too, and without end. */
    private static void passWithEmptyRacks() {
        CrosswordBoard board = FreeGame.ofAllTiles().board;
        for (int i = 0; i < 20; i++) {
            Check.due("pass", i % 2, board.pass());
            Check.due("passes", i + 1, board.count(8));
            Check.due("turn", i % 2, board.count(6));
        }
    }

    /** "NO_SUCH if there is no such player or letter": 0 to 2 and 1 to 8. */
    private static void playersAndLetters() {
        CrosswordBoard board = new CrosswordBoard();
        int[] edges = {
            Integer.MIN_VALUE, -3, -2, -1, 0, 1, 2, 3, 4, 7, 8, 9, 10, 97, Integer.MAX_VALUE};
        for (int player : edges) {
            for (int letter : edges) {
                boolean isThere = player >= 0 && player <= 2 && letter >= 1 && letter <= 8;
                Check.isTrue("tiles(" + player + ", " + letter + ")",
                    isThere == (board.tiles(player, letter) >= 0));
                if (!isThere) {
                    Check.due("tiles(" + player + ", " + letter + ")", CrosswordBoard.NO_SUCH,
                        board.tiles(player, letter));
                }
            }
            Check.due("score(" + player + ")", player == 0 || player == 1 ? 0 : CrosswordBoard.NO_SUCH,
                board.score(player));
        }
    }

    /** "its score is added to the score of the player": of the one who plays. */
    private static void scoresOfTheTwo() {
        FreeGame game = new FreeGame();
        int[] due = new int[2];
        int[] rows = {4, 5, 6, 7, 3, 2};
        for (int i = 0; i < 6; i++) {
            due[i % 2] += game.put(game.rack(), 9 * rows[i] + 1, false);
            Check.due("score 0 after " + i, due[0], game.board.score(0));
            Check.due("score 1 after " + i, due[1], game.board.score(1));
        }
        float average = (float) (due[0] + due[1]) / 6;
        Check.isTrue("average", game.board.average() == average);
    }

    /** "0.0f without plays": at first, and when the only play is undone. */
    private static void averageOfNoPlays() {
        CrosswordBoard board = Check.withWords("ae");
        Check.isTrue("at first", board.average() == 0.0f);
        board.save();
        board.swap();
        board.pass();
        Check.isTrue("a swap is no play", board.average() == 0.0f);
        board.undo();
        board.undo();
        Check.due("ae", 2, Check.across(board, "ae", 40));
        Check.isTrue("one play", board.average() == 2.0f);
        Check.due("a refused play", -14, Check.across(board, "ae", 40));
        Check.isTrue("a refused play does not count", board.average() == 2.0f);
        board.undo();
        Check.isTrue("after undo", board.average() == 0.0f);
        Check.across(board, "ae", 40);
        board.restore();
        Check.isTrue("after restore", board.average() == 0.0f);
    }

    /** "the sum of both scores, as a float, divided by the number of plays so far". */
    private static void averageIsNoWholeNumber() {
        CrosswordBoard board = Check.withWords("ae", "aea", "aead");
        Check.due("ae", 2, Check.across(board, "ae", 40));
        Check.due("aea", 3, Check.across(board, "aea", 40));
        Check.isTrue("5 / 2", board.average() == 2.5f);
        board.pass();
        Check.due("aead", 5, Check.across(board, "aead", 40));
        Check.isTrue("10 / 3", board.average() == 10.0f / 3.0f);
    }
}
