import java.util.ArrayList;
import java.util.Arrays;
import java.util.LinkedHashSet;
import java.util.List;

/**
 * A game in which any word can be put on the board: before each play the list is made to hold just
 * the word and those that its crossings need. The racks, the bag and the draws are kept here a
 * second time, as texts, so that a test can ask for them without a call.
 */
final class FreeGame {
    final CrosswordBoard board = new CrosswordBoard();
    private final char[][] letters = new char[9][9];
    private final List<String> words = new ArrayList<>();
    private final StringBuilder[] racks = {new StringBuilder(), new StringBuilder()};
    private final StringBuilder bag = new StringBuilder("aaaaaaaabbbbccccddddeeeeeeeefffggghhhh");
    private int x = 1;
    private int turn;

    FreeGame() {
        for (char[] row : letters) {
            Arrays.fill(row, ' ');
        }
        fill(0);
        fill(1);
    }

    /**
     * A block of rows of six, one below the other: each play but the last takes a whole rack. The
     * bag has 26 tiles at first and then 20, 14, 8, 2 and 0; after six plays the player 0 has 2
     * tiles and the player 1 none.
     */
    static FreeGame ofSixes(int plays) {
        int[] rows = {4, 5, 6, 7, 3, 2};
        FreeGame game = new FreeGame();
        for (int i = 0; i < plays; i++) {
            game.put(game.rack(), 9 * rows[i] + 1, false);
        }
        return game;
    }

    /** All 38 tiles on the board, after seven plays; it is the turn of the player 1. */
    static FreeGame ofAllTiles() {
        FreeGame game = ofSixes(6);
        game.put(game.rack(), 10, false);
        return game;
    }

    private void fill(int player) {
        while (racks[player].length() < 6 && bag.length() > 0) {
            x = (x * 75 + 74) % 65537;
            int index = x % bag.length();
            racks[player].append(bag.charAt(index));
            bag.deleteCharAt(index);
        }
    }

    /** The rack of a player, or the bag (2), in alphabetical order. */
    String tiles(int player) {
        char[] tiles = (player == 2 ? bag : racks[player]).toString().toCharArray();
        Arrays.sort(tiles);
        return new String(tiles);
    }

    /** The rack of the player whose turn it is. */
    String rack() {
        return tiles(turn);
    }

    void pass() {
        board.pass();
        turn = 1 - turn;
    }

    /** Makes a play for the player whose turn it is, and returns its score. */
    int put(String word, int square, boolean isDown) {
        list(word, square, isDown);
        int score = board.play(Check.code(word), square, isDown);
        Check.isTrue("'" + word + "' on " + square + " is played (" + score + ")", score > 0);
        for (int i = 0; i < word.length(); i++) {
            int row = square / 9 + (isDown ? i : 0);
            int column = square % 9 + (isDown ? 0 : i);
            if (letters[row][column] == ' ') {
                letters[row][column] = word.charAt(i);
                StringBuilder rack = racks[turn];
                rack.deleteCharAt(rack.indexOf("" + word.charAt(i)));
            }
        }
        fill(turn);
        turn = 1 - turn;
        return score;
    }

    /** Makes the list hold the words that a play needs and no other; at most 16 calls. */
    void list(String word, int square, boolean isDown) {
        for (String old : words) {
            board.dropWord(Check.code(old));
        }
        LinkedHashSet<String> needed = new LinkedHashSet<>();
        needed.add(word);
        for (int i = 0; i < word.length(); i++) {
            int row = square / 9 + (isDown ? i : 0);
            int column = square % 9 + (isDown ? 0 : i);
            if (letters[row][column] == ' ') {
                String crossing = crossing(row, column, !isDown, word.charAt(i));
                if (crossing.length() > 1) {
                    needed.add(crossing);
                }
            }
        }
        words.clear();
        words.addAll(needed);
        for (String added : words) {
            board.addWord(Check.code(added));
        }
    }

    private String crossing(int row, int column, boolean isDown, char letter) {
        StringBuilder run = new StringBuilder().append(letter);
        int down = isDown ? 1 : 0;
        int across = 1 - down;
        for (int i = 1; at(row + i * down, column + i * across) != ' '; i++) {
            run.append(at(row + i * down, column + i * across));
        }
        for (int i = 1; at(row - i * down, column - i * across) != ' '; i++) {
            run.insert(0, at(row - i * down, column - i * across));
        }
        return run.toString();
    }

    private char at(int row, int column) {
        return row < 0 || row > 8 || column < 0 || column > 8 ? ' ' : letters[row][column];
    }
}
