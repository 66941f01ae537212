import java.util.ArrayDeque;
import java.util.ArrayList;
import java.util.Arrays;
import java.util.Deque;
import java.util.List;
import java.util.Random;
import java.util.regex.Matcher;
import java.util.regex.Pattern;

/**
 * The document once more, written with texts, lists and regular expressions and without a thought
 * for speed, so that the program can be compared with it.
 */
final class SlowModel {
    private static final String VALUES = "12321434";
    private static final Pattern LIST = Pattern.compile(
        "([+-][a-h]{2,7}|[a-h]{2,7}[1-9][1-9][>v])(,([+-][a-h]{2,7}|[a-h]{2,7}[1-9][1-9][>v]))*");

    /** What undo and restore bring back. */
    private static final class State {
        List<String> words = new ArrayList<>();
        char[][] board = new char[9][9];
        StringBuilder[] holders = {
            new StringBuilder(), new StringBuilder(), new StringBuilder()};
        int x = 1;
        int turn;
        int[] scores = new int[2];
        int plays;
        int passes;
        int swaps;

        State copy() {
            State copy = new State();
            copy.words.addAll(words);
            for (int row = 0; row < 9; row++) {
                copy.board[row] = board[row].clone();
            }
            for (int i = 0; i < 3; i++) {
                copy.holders[i].append(holders[i]);
            }
            copy.x = x;
            copy.turn = turn;
            copy.scores = scores.clone();
            copy.plays = plays;
            copy.passes = passes;
            copy.swaps = swaps;
            return copy;
        }
    }

    private State now = new State();
    private State snapshot;
    private final Deque<State> history = new ArrayDeque<>();
    private String text = "";
    private int stop = -5;

    SlowModel() {
        for (char[] row : now.board) {
            Arrays.fill(row, ' ');
        }
        now.holders[2].append("aaaaaaaabbbbccccddddeeeeeeeefffggghhhh");
        fill(0);
        fill(1);
    }

    private void fill(int player) {
        StringBuilder bag = now.holders[2];
        while (now.holders[player].length() < 6 && bag.length() > 0) {
            now.x = (now.x * 75 + 74) % 65537;
            int index = now.x % bag.length();
            now.holders[player].append(bag.charAt(index));
            bag.deleteCharAt(index);
        }
    }

    /** The word with a code, or null. */
    static String wordOf(int code) {
        if (code < 0) {
            return null;
        }
        String digits = Integer.toString(code, 9);
        if (!digits.matches("[1-8]{2,7}")) {
            return null;
        }
        StringBuilder word = new StringBuilder();
        for (char digit : digits.toCharArray()) {
            word.append((char) (digit - '1' + 'a'));
        }
        return word.toString();
    }

    private static int numberOf(String word) {
        int number = 0;
        for (char letter : word.toCharArray()) {
            number = number * 9 + letter - 'a' + 1;
        }
        return number;
    }

    // ---- actions

    private int act(State before, int answer) {
        if (answer >= 0) {
            history.addLast(before);
            if (history.size() > 5) {
                history.removeFirst();
            }
        }
        return answer;
    }

    int addWord(int code) {
        return act(now.copy(), plainAdd(code));
    }

    private int plainAdd(int code) {
        String word = wordOf(code);
        if (word == null) {
            return -2;
        }
        if (now.words.contains(word)) {
            return -4;
        }
        if (now.words.size() == 20) {
            return -3;
        }
        now.words.add(word);
        return now.words.size() - 1;
    }

    int dropWord(int code) {
        return act(now.copy(), plainDrop(code));
    }

    private int plainDrop(int code) {
        String word = wordOf(code);
        if (word == null) {
            return -2;
        }
        int number = now.words.indexOf(word);
        if (number >= 0) {
            now.words.remove(number);
        }
        return number;
    }

    int play(int code, int square, boolean isDown) {
        return act(now.copy(), plainPlay(code, square, isDown));
    }

    private int plainPlay(int code, int square, boolean isDown) {
        int reason = reason(code, square, isDown);
        if (reason < 0) {
            return reason;
        }
        if (reason > 0) {
            return -10 - reason;
        }
        int worth = worth(code, square, isDown);
        String word = wordOf(code);
        for (int[] place : newPlaces(word, square, isDown)) {
            char letter = word.charAt(place[2]);
            now.board[place[0]][place[1]] = letter;
            StringBuilder rack = now.holders[now.turn];
            rack.deleteCharAt(rack.indexOf("" + letter));
        }
        now.scores[now.turn] += worth;
        fill(now.turn);
        now.turn = 1 - now.turn;
        now.plays++;
        return worth;
    }

    int pass() {
        State before = now.copy();
        now.turn = 1 - now.turn;
        now.passes++;
        return act(before, now.turn);
    }

    int swap() {
        State before = now.copy();
        String aside = now.holders[now.turn].toString();
        if (now.holders[2].length() < aside.length()) {
            return -4;
        }
        now.holders[now.turn].setLength(0);
        fill(now.turn);
        char[] bag = (now.holders[2] + aside).toCharArray();
        Arrays.sort(bag);
        now.holders[2] = new StringBuilder(new String(bag));
        now.turn = 1 - now.turn;
        now.swaps++;
        return act(before, aside.length());
    }

    // ---- text

    int append(int character) {
        if (character < 32 || character > 126) {
            return -2;
        }
        if (text.length() == 80) {
            return -3;
        }
        text += (char) character;
        return text.length();
    }

    int clearText() {
        int length = text.length();
        text = "";
        return length;
    }

    int fault() {
        if (LIST.matcher(text).matches()) {
            return -5;
        }
        for (int length = 1; length <= text.length(); length++) {
            Matcher matcher = LIST.matcher(text.substring(0, length));
            if (!matcher.matches() && !matcher.hitEnd()) {
                return length - 1;
            }
        }
        return text.length();
    }

    int perform() {
        int fault = fault();
        if (fault >= 0) {
            return -100 - fault;
        }
        State before = now.copy();
        int carriedOut = 0;
        for (String order : text.split(",")) {
            int answer = carryOut(order);
            if (answer < 0) {
                stop = answer;
                break;
            }
            carriedOut++;
        }
        return act(before, carriedOut);
    }

    private int carryOut(String order) {
        if (order.startsWith("+")) {
            return plainAdd(numberOf(order.substring(1)));
        }
        if (order.startsWith("-")) {
            return plainDrop(numberOf(order.substring(1)));
        }
        int end = order.length();
        int row = order.charAt(end - 3) - '1';
        int column = order.charAt(end - 2) - '1';
        return plainPlay(numberOf(order.substring(0, end - 3)), 9 * row + column,
            order.endsWith("v"));
    }

    int stopped() {
        return stop;
    }

    // ---- history and snapshot

    int undo() {
        if (history.isEmpty()) {
            return -5;
        }
        now = history.removeLast();
        return history.size();
    }

    int save() {
        snapshot = now.copy();
        return count(1);
    }

    int restore() {
        if (snapshot == null) {
            return -4;
        }
        act(now.copy(), 0);
        now = snapshot.copy();
        return count(1);
    }

    // ---- queries

    int word(int number) {
        return number < 0 || number >= now.words.size() ? -1 : numberOf(now.words.get(number));
    }

    private char at(int row, int column) {
        return row < 0 || row > 8 || column < 0 || column > 8 ? ' ' : now.board[row][column];
    }

    private static boolean isSquare(int square) {
        return 0 <= square && square <= 80;
    }

    int tile(int square) {
        if (!isSquare(square)) {
            return -1;
        }
        char letter = at(square / 9, square % 9);
        return letter == ' ' ? 0 : letter - 'a' + 1;
    }

    /** A row or a column as a text of 9 characters. */
    private String line(int square, boolean isDown) {
        StringBuilder line = new StringBuilder();
        for (int i = 0; i < 9; i++) {
            line.append(isDown ? at(i, square % 9) : at(square / 9, i));
        }
        return line.toString();
    }

    /** The piece without blanks round an index of a text; empty if it is of one letter only. */
    private static String piece(String line, int index) {
        int start = line.lastIndexOf(' ', index) + 1;
        int end = line.indexOf(' ', index);
        String piece = line.charAt(index) == ' ' ? ""
            : line.substring(start, end < 0 ? line.length() : end);
        return piece.length() < 2 ? "" : piece;
    }

    /** The run to which a square would belong with this letter, as a text. */
    private String runWith(int square, boolean isDown, char letter) {
        int index = isDown ? square / 9 : square % 9;
        StringBuilder line = new StringBuilder(line(square, isDown));
        line.setCharAt(index, letter);
        return piece(line.toString(), index);
    }

    int run(int square, boolean isDown) {
        if (!isSquare(square)) {
            return -1;
        }
        String run = runWith(square, isDown, at(square / 9, square % 9));
        return run.isEmpty() ? -5 : numberOf(run);
    }

    private boolean crosses(int square, boolean isDown, char letter) {
        String run = runWith(square, !isDown, letter);
        return run.isEmpty() || now.words.contains(run);
    }

    int crossCheck(int square, boolean isDown) {
        if (!isSquare(square)) {
            return -1;
        }
        if (tile(square) != 0) {
            return -5;
        }
        int set = 0;
        for (char letter = 'a'; letter <= 'h'; letter++) {
            if (crosses(square, isDown, letter)) {
                set += 1 << (letter - 'a');
            }
        }
        return set;
    }

    int anchor(int square) {
        if (!isSquare(square)) {
            return -1;
        }
        if (count(1) == 0) {
            return square == 40 ? 1 : 0;
        }
        int row = square / 9;
        int column = square % 9;
        String around = "" + at(row - 1, column) + at(row + 1, column) + at(row, column - 1)
            + at(row, column + 1);
        return at(row, column) == ' ' && !around.isBlank() ? 1 : 0;
    }

    int tiles(int player, int letter) {
        if (player < 0 || player > 2 || letter < 1 || letter > 8) {
            return -1;
        }
        return (int) now.holders[player].chars().filter(c -> c == 'a' + letter - 1).count();
    }

    int score(int player) {
        return player < 0 || player > 1 ? -1 : now.scores[player];
    }

    int count(int what) {
        List<String> runs = new ArrayList<>();
        int onBoard = 0;
        int anchors = 0;
        if (what == 1 || what >= 3 && what <= 5) {
            for (int i = 0; i < 9; i++) {
                for (String piece : (line(9 * i, false) + " " + line(i, true)).split(" ")) {
                    if (piece.length() >= 2) {
                        runs.add(piece);
                    }
                }
                onBoard += line(i, true).replace(" ", "").length();
            }
        }
        if (what == 3) {
            for (int square = 0; square < 81; square++) {
                anchors += anchor(square);
            }
        }
        switch (what) {
            case 0: return now.words.size();
            case 1: return onBoard;
            case 2: return now.holders[2].length();
            case 3: return anchors;
            case 4: return runs.size();
            case 5: runs.removeIf(now.words::contains); return runs.size();
            case 6: return now.turn;
            case 7: return now.plays;
            case 8: return now.passes;
            case 9: return now.swaps;
            case 10: return history.size();
            case 11: return text.length();
            default: return -2;
        }
    }

    // ---- what could be played

    /** Row, column and index in the word for each square of a play that is empty. */
    private List<int[]> newPlaces(String word, int square, boolean isDown) {
        List<int[]> places = new ArrayList<>();
        for (int i = 0; i < word.length(); i++) {
            int row = square / 9 + (isDown ? i : 0);
            int column = square % 9 + (isDown ? 0 : i);
            if (at(row, column) == ' ') {
                places.add(new int[] {row, column, i});
            }
        }
        return places;
    }

    private int placeReason(String word, int square, boolean isDown) {
        int first = isDown ? square / 9 : square % 9;
        int end = first + word.length();
        if (!now.words.contains(word)) {
            return 1;
        }
        if (end > 9) {
            return 2;
        }
        String line = line(square, isDown);
        String under = line.substring(first, end);
        for (int i = 0; i < word.length(); i++) {
            if (under.charAt(i) != ' ' && under.charAt(i) != word.charAt(i)) {
                return 3;
            }
        }
        if (!under.contains(" ")) {
            return 4;
        }
        String framed = " " + line + " ";
        if (framed.charAt(first) != ' ' || framed.charAt(end + 1) != ' ') {
            return 5;
        }
        int anchors = 0;
        for (int[] place : newPlaces(word, square, isDown)) {
            anchors += anchor(9 * place[0] + place[1]);
        }
        if (anchors == 0) {
            return 6;
        }
        for (int[] place : newPlaces(word, square, isDown)) {
            if (!crosses(9 * place[0] + place[1], isDown, word.charAt(place[2]))) {
                return 7;
            }
        }
        return 0;
    }

    int reason(int code, int square, boolean isDown) {
        String word = wordOf(code);
        if (word == null) {
            return -2;
        }
        return isSquare(square) ? reasonOf(word, square, isDown) : -1;
    }

    private int reasonOf(String word, int square, boolean isDown) {
        int reason = placeReason(word, square, isDown);
        if (reason != 0) {
            return reason;
        }
        StringBuilder rack = new StringBuilder(now.holders[now.turn]);
        for (int[] place : newPlaces(word, square, isDown)) {
            int index = rack.indexOf("" + word.charAt(place[2]));
            if (index < 0) {
                return 8;
            }
            rack.deleteCharAt(index);
        }
        return 0;
    }

    private static boolean isWordSquare(int row, int column) {
        return row != 4 && (row == column || row + column == 8);
    }

    private static boolean isLetterSquare(int row, int column) {
        String all = " 04 40 48 84 13 15 31 37 51 57 73 75 ";
        return all.contains(" " + row + column + " ");
    }

    private static int value(char letter) {
        return VALUES.charAt(letter - 'a') - '0';
    }

    int worth(int code, int square, boolean isDown) {
        String word = wordOf(code);
        if (word == null) {
            return -2;
        }
        if (!isSquare(square)) {
            return -1;
        }
        return placeReason(word, square, isDown) != 0 ? -5 : worthOf(word, square, isDown);
    }

    private int worthOf(String word, int square, boolean isDown) {
        int sum = word.chars().map(c -> value((char) c)).sum();
        int factor = 1;
        int others = 0;
        List<int[]> places = newPlaces(word, square, isDown);
        for (int[] place : places) {
            char letter = word.charAt(place[2]);
            int more = isLetterSquare(place[0], place[1]) ? 2 * value(letter) : 0;
            int here = isWordSquare(place[0], place[1]) ? 2 : 1;
            sum += more;
            factor *= here;
            String run = runWith(9 * place[0] + place[1], !isDown, letter);
            if (!run.isEmpty()) {
                others += here * (run.chars().map(c -> value((char) c)).sum() + more);
            }
        }
        return sum * factor + others + (places.size() == 6 ? 15 : 0);
    }

    /** Score, square, direction and number of each play that is not refused, in no order. */
    private List<int[]> allPlays() {
        List<int[]> all = new ArrayList<>();
        for (int number = 0; number < now.words.size(); number++) {
            String word = now.words.get(number);
            for (int square = 0; square < 81; square++) {
                for (int direction = 0; direction <= 1; direction++) {
                    if (reasonOf(word, square, direction == 1) == 0) {
                        int score = worthOf(word, square, direction == 1);
                        all.add(new int[] {score, square, direction, number});
                    }
                }
            }
        }
        return all;
    }

    int plays() {
        return allPlays().size();
    }

    int best(int what) {
        if (what < 0 || what > 3) {
            return -2;
        }
        List<int[]> all = allPlays();
        if (all.isEmpty()) {
            return -5;
        }
        all.sort((p, q) -> p[0] != q[0] ? Integer.compare(q[0], p[0]) : Arrays.compare(p, q));
        return all.get(0)[what];
    }

    float average() {
        return now.plays == 0 ? 0 : ((float) (now.scores[0] + now.scores[1])) / now.plays;
    }

    /** The text, for the makers of random calls. */
    String text() {
        return text;
    }

    /** The words, for the makers of random calls. */
    List<String> words() {
        return now.words;
    }

    /**
     * The word of a play of random letters of the rack, and the words that its crossings need; null
     * if no word fits there.
     */
    List<String> fittingPlay(int square, boolean isDown, int length, Random random) {
        StringBuilder rack = new StringBuilder(now.holders[now.turn]);
        StringBuilder word = new StringBuilder();
        List<String> needed = new ArrayList<>();
        int anchors = 0;
        for (int i = 0; i < length; i++) {
            int row = square / 9 + (isDown ? i : 0);
            int column = square % 9 + (isDown ? 0 : i);
            char letter = at(row, column);
            if (row > 8 || column > 8 || letter == ' ' && rack.length() == 0) {
                return null;
            }
            if (letter == ' ') {
                int index = random.nextInt(rack.length());
                letter = rack.charAt(index);
                rack.deleteCharAt(index);
                anchors += anchor(9 * row + column);
                String run = runWith(9 * row + column, !isDown, letter);
                if (!run.isEmpty()) {
                    needed.add(run);
                }
            }
            word.append(letter);
        }
        needed.add(0, word.toString());
        boolean isTooLong = needed.stream().anyMatch(run -> run.length() > 7);
        boolean isPart = anchors > 0 && !runOver(word.toString(), square, isDown).contentEquals(word);
        return anchors == 0 || isTooLong || isPart ? null : needed;
    }

    /** The run of which a word would be a part, if it were put on the board. */
    private String runOver(String word, int square, boolean isDown) {
        int first = isDown ? square / 9 : square % 9;
        StringBuilder line = new StringBuilder(line(square, isDown));
        line.replace(first, first + word.length(), word);
        return piece(line.toString(), first);
    }
}
