/**
 * A crossword board game for two players, as ../shared/DOC.md promises it.
 *
 * <p>All objects and arrays are made in the constructor and used again, so that no call makes new
 * ones. Inside, a letter is its number (1 to 8) and 0 stands for no letter.
 */
public final class CrosswordBoard {
    public static final int NO_SUCH = -1;
    public static final int BAD_VALUE = -2;
    public static final int TOO_MANY = -3;
    public static final int NOT_POSSIBLE = -4;
    public static final int NONE = -5;

    private static final int LETTERS = 8;
    private static final int BASE = 9;
    private static final int SHORTEST_WORD = 2;
    private static final int LONGEST_WORD = 7;
    private static final int MOST_WORDS = 20;

    private static final int SIDE = 9;
    private static final int SQUARES = 81;
    private static final int PLACES = 2 * SQUARES;
    private static final int MIDDLE = 4;
    private static final int CENTER = 40;

    private static final int PLAYERS = 2;
    private static final int BAG = 2;
    private static final int RACK_SIZE = 6;
    private static final int BONUS = 15;

    private static final int MOST_STATES = 5;
    private static final int MOST_CHARACTERS = 80;
    private static final int FIRST_CHARACTER = 32;
    private static final int LAST_CHARACTER = 126;

    private static final int UNKNOWN_WORD = 1;
    private static final int OFF_BOARD = 2;
    private static final int OTHER_LETTER = 3;
    private static final int NO_NEW_TILE = 4;
    private static final int LONGER_RUN = 5;
    private static final int NO_ANCHOR = 6;
    private static final int WRONG_CROSSING = 7;
    private static final int MISSING_TILE = 8;

    // By the number of the letter; nothing stands at 0.
    private static final int[] VALUES = {0, 1, 2, 3, 2, 1, 4, 3, 4};
    private static final int[] SUPPLY = {0, 8, 4, 4, 4, 8, 3, 3, 4};

    private final Game game;
    private final Game snapshot;
    private final History history;
    private final Orders orders;
    private final Play candidate;
    private final Search search;
    private boolean hasSnapshot;
    private int latestStop;

    public CrosswordBoard() {
        game = new Game();
        snapshot = new Game();
        history = new History();
        orders = new Orders();
        candidate = new Play();
        search = new Search();
        latestStop = NONE;
        game.deal();
    }

    // ---- actions

    public int addWord(int code) {
        history.prepare(game);
        return kept(game.listWord(code));
    }

    public int dropWord(int code) {
        history.prepare(game);
        return kept(game.unlistWord(code));
    }

    public int play(int code, int square, boolean isDown) {
        int error = errorOf(code, square);
        if (error != 0) {
            return error;
        }
        candidate.setWord(code);
        candidate.setPlace(square, isDown);
        history.prepare(game);
        return kept(game.makePlay(candidate));
    }

    public int pass() {
        history.prepare(game);
        return kept(game.makePass());
    }

    public int swap() {
        history.prepare(game);
        return kept(game.makeSwap());
    }

    // ---- text

    public int append(int character) {
        if (character < FIRST_CHARACTER || character > LAST_CHARACTER) {
            return BAD_VALUE;
        }
        return orders.addCharacter(character) ? orders.length : TOO_MANY;
    }

    public int clearText() {
        int length = orders.length;
        orders.length = 0;
        return length;
    }

    public int fault() {
        return orders.firstFault();
    }

    public int perform() {
        int fault = orders.firstFault();
        if (fault != NONE) {
            return -100 - fault;
        }
        history.prepare(game);
        history.keep();
        orders.position = 0;
        int carriedOut = 0;
        while (carriedOut < MOST_CHARACTERS && orders.position < orders.length) {
            orders.readOrder();
            orders.position++; // the comma, if there is one
            int answer = carryOut();
            if (answer < 0) {
                latestStop = answer;
                return carriedOut;
            }
            carriedOut++;
        }
        return carriedOut;
    }

    public int stopped() {
        return latestStop;
    }

    // ---- history and snapshot

    public int undo() {
        if (history.size == 0) {
            return NONE;
        }
        history.takeBack(game);
        return history.size;
    }

    public int save() {
        snapshot.copyFrom(game);
        hasSnapshot = true;
        return game.board.tilesOn();
    }

    public int restore() {
        if (!hasSnapshot) {
            return NOT_POSSIBLE;
        }
        history.prepare(game);
        history.keep();
        game.copyFrom(snapshot);
        return game.board.tilesOn();
    }

    // ---- queries about words, the board and the tiles; they change nothing

    public int word(int number) {
        if (number < 0 || number >= game.words.size) {
            return NO_SUCH;
        }
        return game.words.codeOf(number);
    }

    public int tile(int square) {
        return isSquare(square) ? game.board.letterOn(square) : NO_SUCH;
    }

    public int run(int square, boolean isDown) {
        if (!isSquare(square)) {
            return NO_SUCH;
        }
        int letter = game.board.letterOn(square);
        int code = letter == 0 ? 0 : game.board.runThrough(square, isDown, letter);
        return code == 0 ? NONE : code;
    }

    public int crossCheck(int square, boolean isDown) {
        if (!isSquare(square)) {
            return NO_SUCH;
        }
        return game.board.letterOn(square) != 0 ? NONE : game.crossSet(square, isDown);
    }

    public int anchor(int square) {
        if (!isSquare(square)) {
            return NO_SUCH;
        }
        return game.board.isAnchor(square) ? 1 : 0;
    }

    public int tiles(int player, int letter) {
        if (player < 0 || player > BAG || letter < 1 || letter > LETTERS) {
            return NO_SUCH;
        }
        return player == BAG ? game.bag.of(letter) : game.rackOf(player).of(letter);
    }

    public int score(int player) {
        if (player < 0 || player >= PLAYERS) {
            return NO_SUCH;
        }
        return player == 0 ? game.score0 : game.score1;
    }

    public int count(int what) {
        switch (what) {
            case 0:
                return game.words.size;
            case 1:
                return game.board.tilesOn();
            case 2:
                return game.bag.total();
            case 3:
                return game.board.anchors();
            case 4:
                return game.runsInAll();
            case 5:
                return game.runsUnlisted();
            case 6:
                return game.turn;
            case 7:
                return game.playsMade;
            case 8:
                return game.passesMade;
            case 9:
                return game.swapsMade;
            case 10:
                return history.size;
            case 11:
                return orders.length;
            default:
                return BAD_VALUE;
        }
    }

    // ---- what could be played; nothing is changed

    public int reason(int code, int square, boolean isDown) {
        int error = errorOf(code, square);
        if (error != 0) {
            return error;
        }
        candidate.setWord(code);
        candidate.setPlace(square, isDown);
        return game.refusal(candidate);
    }

    public int worth(int code, int square, boolean isDown) {
        int error = errorOf(code, square);
        if (error != 0) {
            return error;
        }
        candidate.setWord(code);
        candidate.setPlace(square, isDown);
        int reason = game.refusal(candidate);
        // The rack is looked at last, so that a play it refuses has none of the reasons 1 to 7.
        return reason == 0 || reason == MISSING_TILE ? game.worthOf(candidate) : NONE;
    }

    public int plays() {
        search.look(game);
        return search.found;
    }

    public int best(int what) {
        if (what < 0 || what > 3) {
            return BAD_VALUE;
        }
        search.look(game);
        if (search.found == 0) {
            return NONE;
        }
        switch (what) {
            case 0:
                return search.bestScore;
            case 1:
                return search.bestPlace / 2;
            case 2:
                return search.bestPlace % 2;
            default:
                return search.bestWord;
        }
    }

    public float average() {
        if (game.playsMade == 0) {
            return 0.0f;
        }
        return (float) (game.score0 + game.score1) / (float) game.playsMade;
    }

    // ---- private helpers

    /** Hands an action's answer on; an action without an error puts the prepared state down. */
    private int kept(int answer) {
        if (answer >= 0) {
            history.keep();
        }
        return answer;
    }

    /** Carries out the order that was read last, and answers as the method of this order does. */
    private int carryOut() {
        if (orders.sign == '+') {
            return game.listWord(orders.code);
        }
        if (orders.sign == '-') {
            return game.unlistWord(orders.code);
        }
        candidate.setWord(orders.code);
        candidate.setPlace(orders.square, orders.isDown);
        return game.makePlay(candidate);
    }

    /** The error code for the arguments that describe a play; 0 if they are in order. */
    private static int errorOf(int code, int square) {
        if (lengthOf(code) == 0) {
            return BAD_VALUE;
        }
        return isSquare(square) ? 0 : NO_SUCH;
    }

    private static boolean isSquare(int square) {
        return square >= 0 && square < SQUARES;
    }

    /** The number of letters of the word with this code; 0 if this is no code of a word. */
    private static int lengthOf(int code) {
        int length = 0;
        int rest = code;
        while (length < LONGEST_WORD && rest > 0 && rest % BASE != 0) {
            rest /= BASE;
            length++;
        }
        return rest == 0 && length >= SHORTEST_WORD ? length : 0;
    }

    private static int valueOf(int letter) {
        return letter >= 1 && letter <= LETTERS ? VALUES[letter] : 0;
    }

    private static boolean isWordSquare(int square) {
        int rowDistance = Math.abs(square / SIDE - MIDDLE);
        int columnDistance = Math.abs(square % SIDE - MIDDLE);
        return rowDistance == columnDistance && rowDistance > 0;
    }

    private static boolean isLetterSquare(int square) {
        int rowDistance = Math.abs(square / SIDE - MIDDLE);
        int columnDistance = Math.abs(square % SIDE - MIDDLE);
        return rowDistance + columnDistance == 4 && rowDistance != 2;
    }

    private static int newTileValue(int square, int letter) {
        return valueOf(letter) * (isLetterSquare(square) ? 3 : 1);
    }

    private static int newTileFactor(int square) {
        return isWordSquare(square) ? 2 : 1;
    }

    /** The list of words. */
    private static final class WordList {
        final int[] codes = new int[MOST_WORDS];
        int size;

        void copyFrom(WordList other) {
            System.arraycopy(other.codes, 0, codes, 0, MOST_WORDS);
            size = other.size;
        }

        int codeOf(int number) {
            return number >= 0 && number < MOST_WORDS ? codes[number] : 0;
        }

        /** The number of a word; NO_SUCH if it is not in the list. */
        int numberOf(int code) {
            for (int number = 0; number < size && number < MOST_WORDS; number++) {
                if (codes[number] == code) {
                    return number;
                }
            }
            return NO_SUCH;
        }

        /** Puts a word at the end; false if there is no room. */
        boolean add(int code) {
            if (size < 0 || size >= MOST_WORDS) {
                return false;
            }
            codes[size] = code;
            size++;
            return true;
        }

        void remove(int number) {
            if (number < 0 || number >= size) {
                return;
            }
            for (int i = number; i + 1 < size && i + 1 < MOST_WORDS; i++) {
                codes[i] = codes[i + 1];
            }
            size--;
        }
    }

    /** The squares and the letters of their tiles. */
    private static final class Board {
        final int[] letters = new int[SQUARES];

        void copyFrom(Board other) {
            System.arraycopy(other.letters, 0, letters, 0, SQUARES);
        }

        int letterOn(int square) {
            return isSquare(square) ? letters[square] : 0;
        }

        /** The letter some steps away from a square; 0 behind the edge of the board too. */
        int letterFrom(int square, boolean isDown, int steps) {
            int row = square / SIDE + (isDown ? steps : 0);
            int column = square % SIDE + (isDown ? 0 : steps);
            if (row < 0 || row >= SIDE || column < 0 || column >= SIDE) {
                return 0;
            }
            return letters[SIDE * row + column];
        }

        void put(int square, int letter) {
            if (isSquare(square)) {
                letters[square] = letter;
            }
        }

        int tilesOn() {
            int tiles = 0;
            for (int square = 0; square < SQUARES; square++) {
                if (letters[square] != 0) {
                    tiles++;
                }
            }
            return tiles;
        }

        boolean isAnchor(int square) {
            if (letterOn(square) != 0) {
                return false;
            }
            return letterFrom(square, false, -1) != 0
                || letterFrom(square, false, 1) != 0
                || letterFrom(square, true, -1) != 0
                || letterFrom(square, true, 1) != 0
                || square == CENTER && tilesOn() == 0;
        }

        int anchors() {
            int anchors = 0;
            for (int square = 0; square < SQUARES; square++) {
                if (isAnchor(square)) {
                    anchors++;
                }
            }
            return anchors;
        }

        boolean startsRun(int square, boolean isDown) {
            return letterOn(square) != 0
                && letterFrom(square, isDown, -1) == 0
                && letterFrom(square, isDown, 1) != 0;
        }

        /**
         * The number that the run through a square writes if the square has a tile with this
         * letter; 0 if it belongs to no run.
         */
        int runThrough(int square, boolean isDown, int letter) {
            int first = 0;
            while (first > -SIDE && letterFrom(square, isDown, first - 1) != 0) {
                first--;
            }
            int code = 0;
            int length = 0;
            for (int step = first; step < SIDE; step++) {
                int next = step == 0 ? letter : letterFrom(square, isDown, step);
                if (next == 0) {
                    break;
                }
                code = code * BASE + next;
                length++;
            }
            return length >= 2 ? code : 0;
        }

        /** The values of the tiles that would be in one run with a tile on the empty square. */
        int valueBeside(int square, boolean isDown) {
            int value = 0;
            for (int step = 1; step < SIDE && letterFrom(square, isDown, step) != 0; step++) {
                value += valueOf(letterFrom(square, isDown, step));
            }
            for (int step = -1; step > -SIDE && letterFrom(square, isDown, step) != 0; step--) {
                value += valueOf(letterFrom(square, isDown, step));
            }
            return value;
        }
    }

    /** Tiles that are not on the board, as many of each letter. */
    private static final class TileSet {
        final int[] amounts = new int[LETTERS + 1];

        void copyFrom(TileSet other) {
            System.arraycopy(other.amounts, 0, amounts, 0, LETTERS + 1);
        }

        int of(int letter) {
            return letter >= 1 && letter <= LETTERS ? amounts[letter] : 0;
        }

        /** Puts tiles with a letter in, or takes them out if the amount is below 0. */
        void change(int letter, int amount) {
            if (letter >= 1 && letter <= LETTERS) {
                amounts[letter] += amount;
            }
        }

        void moveAllTo(TileSet other) {
            for (int letter = 1; letter <= LETTERS; letter++) {
                other.change(letter, amounts[letter]);
                amounts[letter] = 0;
            }
        }

        int total() {
            int total = 0;
            for (int letter = 1; letter <= LETTERS; letter++) {
                total += amounts[letter];
            }
            return total;
        }

        /** The letter of the tile with this index in alphabetical order; 0 if there is none. */
        int letterAt(int index) {
            int rest = index;
            for (int letter = 1; letter <= LETTERS; letter++) {
                if (rest < amounts[letter]) {
                    return letter;
                }
                rest -= amounts[letter];
            }
            return 0;
        }
    }

    /** A word on a place of the board, whether it can be played or not. */
    private static final class Play {
        final int[] letters = new int[LONGEST_WORD];
        int code;
        int length;
        int square;
        boolean isDown;

        void setWord(int newCode) {
            code = newCode;
            length = lengthOf(newCode);
            int rest = newCode;
            for (int i = length - 1; i >= 0 && i < LONGEST_WORD; i--) {
                letters[i] = rest % BASE;
                rest /= BASE;
            }
        }

        void setPlace(int newSquare, boolean newIsDown) {
            square = newSquare;
            isDown = newIsDown;
        }

        int letterOf(int i) {
            return i >= 0 && i < LONGEST_WORD ? letters[i] : 0;
        }

        int squareOf(int i) {
            return square + i * (isDown ? SIDE : 1);
        }

        boolean isOnBoard() {
            int first = isDown ? square / SIDE : square % SIDE;
            return first + length <= SIDE;
        }
    }

    /** The state: everything that an action changes and that undo and restore bring back. */
    private static final class Game {
        final WordList words = new WordList();
        final Board board = new Board();
        final TileSet rack0 = new TileSet();
        final TileSet rack1 = new TileSet();
        final TileSet bag = new TileSet();
        /** Empty but during a swap, and so no part of the state. */
        final TileSet aside = new TileSet();
        int drawNumber = 1;
        int turn;
        int score0;
        int score1;
        int playsMade;
        int passesMade;
        int swapsMade;

        void copyFrom(Game other) {
            words.copyFrom(other.words);
            board.copyFrom(other.board);
            rack0.copyFrom(other.rack0);
            rack1.copyFrom(other.rack1);
            bag.copyFrom(other.bag);
            drawNumber = other.drawNumber;
            turn = other.turn;
            score0 = other.score0;
            score1 = other.score1;
            playsMade = other.playsMade;
            passesMade = other.passesMade;
            swapsMade = other.swapsMade;
        }

        void deal() {
            for (int letter = 1; letter <= LETTERS; letter++) {
                bag.change(letter, SUPPLY[letter]);
            }
            fill(rack0);
            fill(rack1);
        }

        TileSet rackOf(int player) {
            return player == 0 ? rack0 : rack1;
        }

        void fill(TileSet rack) {
            for (int missing = RACK_SIZE - rack.total(); missing > 0; missing--) {
                int inBag = bag.total();
                if (inBag <= 0) {
                    return;
                }
                drawNumber = (drawNumber * 75 + 74) % 65537;
                int letter = bag.letterAt(drawNumber % inBag);
                bag.change(letter, -1);
                rack.change(letter, 1);
            }
        }

        // What follows answers as the action of the face does, but keeps no history.

        int listWord(int code) {
            if (lengthOf(code) == 0) {
                return BAD_VALUE;
            }
            if (words.numberOf(code) >= 0) {
                return NOT_POSSIBLE;
            }
            return words.add(code) ? words.size - 1 : TOO_MANY;
        }

        int unlistWord(int code) {
            if (lengthOf(code) == 0) {
                return BAD_VALUE;
            }
            int number = words.numberOf(code);
            if (number >= 0) {
                words.remove(number);
            }
            return number;
        }

        int makePlay(Play play) {
            int reason = refusal(play);
            if (reason != 0) {
                return -10 - reason;
            }
            int worth = worthOf(play);
            TileSet rack = rackOf(turn);
            for (int i = 0; i < play.length; i++) {
                int square = play.squareOf(i);
                if (board.letterOn(square) == 0) {
                    board.put(square, play.letterOf(i));
                    rack.change(play.letterOf(i), -1);
                }
            }
            if (turn == 0) {
                score0 += worth;
            } else {
                score1 += worth;
            }
            fill(rack);
            playsMade++;
            turn = 1 - turn;
            return worth;
        }

        int makePass() {
            passesMade++;
            turn = 1 - turn;
            return turn;
        }

        int makeSwap() {
            TileSet rack = rackOf(turn);
            int putAside = rack.total();
            if (bag.total() < putAside) {
                return NOT_POSSIBLE;
            }
            // The old tiles go into the bag last, since none of them may be drawn.
            rack.moveAllTo(aside);
            fill(rack);
            aside.moveAllTo(bag);
            swapsMade++;
            turn = 1 - turn;
            return putAside;
        }

        // What follows changes nothing.

        /** The reason why a play is refused; 0 if it is not. */
        int refusal(Play play) {
            if (words.numberOf(play.code) < 0) {
                return UNKNOWN_WORD;
            }
            if (!play.isOnBoard()) {
                return OFF_BOARD;
            }
            int newTiles = 0;
            for (int i = 0; i < play.length; i++) {
                int letter = board.letterOn(play.squareOf(i));
                if (letter == 0) {
                    newTiles++;
                } else if (letter != play.letterOf(i)) {
                    return OTHER_LETTER;
                }
            }
            if (newTiles == 0) {
                return NO_NEW_TILE;
            }
            if (board.letterFrom(play.square, play.isDown, -1) != 0
                || board.letterFrom(play.square, play.isDown, play.length) != 0) {
                return LONGER_RUN;
            }
            if (!hasAnchor(play)) {
                return NO_ANCHOR;
            }
            if (!hasRightCrossings(play)) {
                return WRONG_CROSSING;
            }
            return hasTiles(rackOf(turn), play) ? 0 : MISSING_TILE;
        }

        private boolean hasAnchor(Play play) {
            for (int i = 0; i < play.length; i++) {
                if (board.isAnchor(play.squareOf(i))) {
                    return true;
                }
            }
            return false;
        }

        private boolean hasRightCrossings(Play play) {
            for (int i = 0; i < play.length; i++) {
                int square = play.squareOf(i);
                if (board.letterOn(square) == 0) {
                    int code = board.runThrough(square, !play.isDown, play.letterOf(i));
                    if (code != 0 && words.numberOf(code) < 0) {
                        return false;
                    }
                }
            }
            return true;
        }

        private boolean hasTiles(TileSet rack, Play play) {
            for (int letter = 1; letter <= LETTERS; letter++) {
                int needed = 0;
                for (int i = 0; i < play.length; i++) {
                    if (play.letterOf(i) == letter && board.letterOn(play.squareOf(i)) == 0) {
                        needed++;
                    }
                }
                if (rack.of(letter) < needed) {
                    return false;
                }
            }
            return true;
        }

        /** The score of a play that has none of the reasons 1 to 7 and is not made yet. */
        int worthOf(Play play) {
            int sum = 0;
            int factor = 1;
            int crossings = 0;
            int newTiles = 0;
            for (int i = 0; i < play.length; i++) {
                int square = play.squareOf(i);
                int letter = play.letterOf(i);
                if (board.letterOn(square) != 0) {
                    sum += valueOf(letter);
                } else {
                    sum += newTileValue(square, letter);
                    factor *= newTileFactor(square);
                    crossings += crossingWorth(square, !play.isDown, letter);
                    newTiles++;
                }
            }
            return sum * factor + crossings + (newTiles == RACK_SIZE ? BONUS : 0);
        }

        /** What a new tile brings for the run that crosses the play; 0 if there is none. */
        private int crossingWorth(int square, boolean isDown, int letter) {
            int others = board.valueBeside(square, isDown);
            if (others == 0) {
                return 0;
            }
            return (others + newTileValue(square, letter)) * newTileFactor(square);
        }

        /** The cross-check of an empty square for a direction, as a bit mask. */
        int crossSet(int square, boolean isDown) {
            int set = 0;
            for (int letter = 1; letter <= LETTERS; letter++) {
                int code = board.runThrough(square, !isDown, letter);
                if (code == 0 || words.numberOf(code) >= 0) {
                    set |= 1 << (letter - 1);
                }
            }
            return set;
        }

        int runsInAll() {
            int runs = 0;
            for (int place = 0; place < PLACES; place++) {
                if (board.startsRun(place / 2, place % 2 == 1)) {
                    runs++;
                }
            }
            return runs;
        }

        int runsUnlisted() {
            int runs = 0;
            for (int place = 0; place < PLACES; place++) {
                int square = place / 2;
                boolean isDown = place % 2 == 1;
                if (board.startsRun(square, isDown)) {
                    int code = board.runThrough(square, isDown, board.letterOn(square));
                    if (words.numberOf(code) < 0) {
                        runs++;
                    }
                }
            }
            return runs;
        }
    }

    /** The states before the latest actions, in a ring with one row more than it keeps. */
    private static final class History {
        final Game[] states = new Game[MOST_STATES + 1];
        int oldest;
        int size;

        History() {
            for (int i = 0; i < states.length; i++) {
                states[i] = new Game();
            }
        }

        private Game stateAt(int age) {
            int index = (oldest + age) % (MOST_STATES + 1);
            return index >= 0 && index < states.length ? states[index] : null;
        }

        /** Copies the state to the row behind the latest one; it is not in the history yet. */
        void prepare(Game game) {
            Game row = stateAt(size);
            if (row != null) {
                row.copyFrom(game);
            }
        }

        /** Takes the prepared state into the history. */
        void keep() {
            if (size < MOST_STATES) {
                size++;
            } else {
                oldest = (oldest + 1) % (MOST_STATES + 1);
            }
        }

        /** Gives the latest state back to the game; there must be one. */
        void takeBack(Game game) {
            Game row = stateAt(size - 1);
            if (row != null) {
                game.copyFrom(row);
                size--;
            }
        }
    }

    /** The text, and the order that was read from it last. */
    private static final class Orders {
        final int[] characters = new int[MOST_CHARACTERS];
        int length;
        int position;
        int sign;
        int code;
        int square;
        boolean isDown;

        /** Puts a character at the end; false if there is no room. */
        boolean addCharacter(int character) {
            if (length < 0 || length >= MOST_CHARACTERS) {
                return false;
            }
            characters[length] = character;
            length++;
            return true;
        }

        /** The fault of the text; NONE if it is a complete list. */
        int firstFault() {
            position = 0;
            for (int order = 0; order < MOST_CHARACTERS; order++) {
                if (!readOrder()) {
                    return position;
                }
                if (position == length) {
                    return NONE;
                }
                if (current() != ',') {
                    return position;
                }
                position++;
            }
            return position;
        }

        /**
         * Reads an order from the position on and moves behind it; false if there is no complete
         * one, and the position is then where the next character had to be another one.
         */
        boolean readOrder() {
            sign = current();
            boolean isPlay = sign != '+' && sign != '-';
            if (!isPlay) {
                position++;
            }
            if (!readWord()) {
                return false;
            }
            return !isPlay || readPlace();
        }

        private boolean readWord() {
            code = 0;
            int letters = 0;
            while (letters < LONGEST_WORD && current() >= 'a' && current() <= 'h') {
                code = code * BASE + (current() - 'a' + 1);
                letters++;
                position++;
            }
            return letters >= SHORTEST_WORD;
        }

        private boolean readPlace() {
            square = 0;
            for (int digit = 0; digit < 2; digit++) {
                if (current() < '1' || current() > '9') {
                    return false;
                }
                square = square * SIDE + (current() - '1');
                position++;
            }
            isDown = current() == 'v';
            if (!isDown && current() != '>') {
                return false;
            }
            position++;
            return true;
        }

        /** The character at the position; 0 behind the end of the text. */
        private int current() {
            if (position < 0 || position >= length || position >= MOST_CHARACTERS) {
                return 0;
            }
            return characters[position];
        }
    }

    /** Looks through all plays of the player whose turn it is. */
    private static final class Search {
        final Play play = new Play();
        int found;
        int bestScore;
        /** Two times the square, and 1 more for the direction down. */
        int bestPlace;
        int bestWord;

        void look(Game game) {
            found = 0;
            for (int number = 0; number < game.words.size; number++) {
                play.setWord(game.words.codeOf(number));
                for (int place = 0; place < PLACES; place++) {
                    play.setPlace(place / 2, place % 2 == 1);
                    if (game.refusal(play) == 0) {
                        note(game.worthOf(play), place, number);
                    }
                }
            }
        }

        /** The words come in the order of their numbers: on the same place the first one stays. */
        private void note(int score, int place, int number) {
            if (found == 0 || score > bestScore || score == bestScore && place < bestPlace) {
                bestScore = score;
                bestPlace = place;
                bestWord = number;
            }
            found++;
        }
    }
}
