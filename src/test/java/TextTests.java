import java.util.Map;
import java.util.TreeMap;

/** Promises 7 (append), 8 (clearText), 9 (fault), 10 (perform) and 11 (stopped). */
final class TextTests {
    private TextTests() {
    }

    static void run() {
        promise7Append();
        promise7FullText();
        promise8Clear();
        promise9Faults();
        promise9FullText();
        promise10Perform();
        promise10PlacesAndDirections();
        promise10StopsAtAnError();
        promise10NoOrderIsAnAction();
        promise10Fault();
        promise11Stopped();
    }

    private static void promise7Append() {
        Check.topic("promise 7");
        CrosswordBoard board = new CrosswordBoard();
        int[] wrong = {31, 127, 0, -1, 10, 255, Integer.MAX_VALUE, Integer.MIN_VALUE};
        for (int character : wrong) {
            Check.due("append " + character, CrosswordBoard.BAD_VALUE, board.append(character));
        }
        Check.due("length", 0, board.count(11));
        Check.due("least", 1, board.append(32));
        Check.due("greatest", 2, board.append(126));
        Check.due("a letter", 3, board.append('a'));
        Check.due("length", 3, board.count(11));
        Check.due("no action", 0, board.count(10));
    }

    private static void promise7FullText() {
        CrosswordBoard board = new CrosswordBoard();
        for (int length = 1; length <= 80; length++) {
            Check.due("append", length, board.append('a'));
        }
        Check.due("81st", CrosswordBoard.TOO_MANY, board.append('a'));
        Check.due("81st, out of range", CrosswordBoard.BAD_VALUE, board.append(127));
        Check.due("length", 80, board.count(11));
        board.clearText();
        Check.due("room again", 1, board.append('a'));
    }

    private static void promise8Clear() {
        Check.topic("promise 8");
        CrosswordBoard board = new CrosswordBoard();
        Check.due("empty", 0, board.clearText());
        Check.write(board, "+ab");
        Check.due("3 characters", 3, board.clearText());
        Check.due("empty", 0, board.clearText());
        Check.due("fault", 0, board.fault());
        Check.write(board, "-a");
        Check.due("the new text only", 2, board.fault());
        Check.due("no action", 0, board.count(10));
    }

    private static void promise9Faults() {
        Check.topic("promise 9");
        Map<String, Integer> due = new TreeMap<>();
        String[] complete = {"+aa", "-hh", "+abcdefg", "ab11>", "ab99v", "abcdefg55v",
            "+ab,-cd,ef12v", "ab11v,cd22>,+ha", "-abcdefg,-abcdefg"};
        for (String text : complete) {
            due.put(text, CrosswordBoard.NONE);
        }
        String[] begun = {"", "+", "-", "a", "+a", "ab", "ab1", "ab11", "abcdefg", "+ab,",
            "+ab,-", "+ab,c", "ab11v,", "-ab,cd9"};
        for (String text : begun) {
            due.put(text, text.length());
        }
        due.put("+abcdefga", 8);
        due.put("abcdefga", 7);
        due.put("+ai", 2);
        due.put("+A", 1);
        due.put("+i", 1);
        due.put("i", 0);
        due.put("`", 0);
        due.put("*", 0);
        due.put(" ", 0);
        due.put(",", 0);
        due.put("1", 0);
        due.put(">", 0);
        due.put("+a,", 2);
        due.put("+1", 1);
        due.put("++", 1);
        due.put("+-", 1);
        due.put("+ab,,", 4);
        due.put("+ab+", 3);
        due.put("+ab ", 3);
        due.put("+ab11>", 3);
        due.put("a1", 1);
        due.put("a11>", 1);
        due.put("ab,", 2);
        due.put("ab0", 2);
        due.put("ab:", 2);
        due.put("ab10", 3);
        due.put("ab1a", 3);
        due.put("ab1:", 3);
        due.put("ab111", 4);
        due.put("ab11<", 4);
        due.put("ab11V", 4);
        due.put("ab11a", 4);
        due.put("ab11,", 4);
        due.put("ab11>>", 5);
        due.put("ab11>v", 5);
        due.put("ab11v+", 5);
        due.put("abv", 2);
        due.put("ab>", 2);
        due.put("+ab,cd1v,xx", 7);
        due.put("+ab,!,", 4);
        for (Map.Entry<String, Integer> entry : due.entrySet()) {
            CrosswordBoard board = new CrosswordBoard();
            Check.write(board, entry.getKey());
            Check.due("fault of '" + entry.getKey() + "'", entry.getValue(), board.fault());
            Check.due("length", entry.getKey().length(), board.count(11));
        }
    }

    private static void promise9FullText() {
        CrosswordBoard comma = new CrosswordBoard();
        CrosswordBoard complete = new CrosswordBoard();
        for (int i = 0; i < 19; i++) {
            Check.write(comma, "-aa,");
            Check.write(complete, "-aa,");
        }
        Check.write(comma, "-aa,");
        Check.write(complete, "-aaa");
        Check.due("80 characters with a comma at the end", 80, comma.fault());
        Check.due("80 characters, complete", CrosswordBoard.NONE, complete.fault());
        Check.due("perform", -180, comma.perform());
        Check.due("perform", 0, complete.perform());
        Check.due("stopped", CrosswordBoard.NO_SUCH, complete.stopped());
    }

    private static void promise10Perform() {
        Check.topic("promise 10");
        CrosswordBoard board = new CrosswordBoard();
        Check.write(board, "+ae,+ac,+ab,-ab,ae55>,ac55v");
        Check.due("perform", 6, board.perform());
        Check.due("words", 2, board.count(0));
        Check.due("word 0", Check.code("ae"), board.word(0));
        Check.due("word 1", Check.code("ac"), board.word(1));
        Check.due("tile 40", 1, board.tile(40));
        Check.due("tile 41", 5, board.tile(41));
        Check.due("tile 49", 3, board.tile(49));
        Check.due("score 0", 2, board.score(0));
        Check.due("score 1", 4, board.score(1));
        Check.due("plays", 2, board.count(7));
        Check.due("turn", 0, board.count(6));
        Check.due("rack 0", "abcfhh", Check.tiles(board, 0));
        Check.due("rack 1", "aaddgh", Check.tiles(board, 1));
        Check.due("one state", 1, board.count(10));
        Check.due("the text stays", 27, board.count(11));
        Check.due("stopped", CrosswordBoard.NONE, board.stopped());
        Check.due("undo", 0, board.undo());
        Check.due("all is undone", Check.state(new CrosswordBoard()), Check.state(board));
    }

    private static void promise10PlacesAndDirections() {
        CrosswordBoard board = new CrosswordBoard();
        Check.write(board, "+aaefhh,aaefhh54>,+hca,hca49v");
        Check.due("perform stops, h is at 44 and no h at 35", 3, board.perform());
        Check.due("tile 39", 1, board.tile(39));
        Check.due("tile 44", 8, board.tile(44));
        board.clearText();
        Check.write(board, "hca59v");
        Check.due("perform", 1, board.perform());
        Check.due("tile 53", 3, board.tile(53));
        Check.due("tile 62", 1, board.tile(62));
    }

    private static void promise10StopsAtAnError() {
        CrosswordBoard board = Check.withWords("ab");
        Check.write(board, "+ae,+ab,+ac");
        Check.due("perform", 1, board.perform());
        Check.due("words", 2, board.count(0));
        Check.due("stopped", CrosswordBoard.NOT_POSSIBLE, board.stopped());
        Check.due("states", 2, board.count(10));
        board.clearText();
        Check.write(board, "ae55>,-ae,ae55v,+ac");
        Check.due("perform", 2, board.perform());
        Check.due("stopped by the reason 1", -11, board.stopped());
        Check.due("words", 1, board.count(0));
        Check.due("tiles", 2, board.count(1));
        Check.due("states", 3, board.count(10));
    }

    private static void promise10NoOrderIsAnAction() {
        CrosswordBoard board = Check.withWords("ab");
        String before = Check.state(board);
        Check.write(board, "-ae,+ac");
        Check.due("perform", 0, board.perform());
        Check.due("states", 2, board.count(10));
        Check.due("stopped", CrosswordBoard.NO_SUCH, board.stopped());
        Check.due("state", before, Check.state(board));
        Check.due("undo", 1, board.undo());
        Check.due("state", before, Check.state(board));
    }

    private static void promise10Fault() {
        CrosswordBoard board = Check.withWords("ab");
        Check.due("empty text", -100, board.perform());
        Check.write(board, "+ae,+a");
        Check.due("incomplete", -106, board.perform());
        Check.write(board, "i");
        Check.due("wrong character", -106, board.perform());
        Check.due("states", 1, board.count(10));
        Check.due("words", 1, board.count(0));
        Check.due("text", 7, board.count(11));
        Check.due("stopped", CrosswordBoard.NONE, board.stopped());
    }

    private static void promise11Stopped() {
        Check.topic("promise 11");
        CrosswordBoard board = new CrosswordBoard();
        Check.due("at first", CrosswordBoard.NONE, board.stopped());
        board.dropWord(10);
        board.addWord(9);
        Check.due("errors of other calls do not count", CrosswordBoard.NONE, board.stopped());
        performText(board, "+ae,+ae");
        Check.due("word in the list", CrosswordBoard.NOT_POSSIBLE, board.stopped());
        performText(board, "-ae");
        Check.due("a perform without error", CrosswordBoard.NOT_POSSIBLE, board.stopped());
        performText(board, "-ae,");
        Check.due("a text with a fault", CrosswordBoard.NOT_POSSIBLE, board.stopped());
        performText(board, "+af,-ae");
        Check.due("no such word", CrosswordBoard.NO_SUCH, board.stopped());
        performText(board, "af59>");
        Check.due("over the edge", -12, board.stopped());
        performText(board, "+aa,+ab,+ac,+ad,+ae,+ag,+ah,+ba,+bb,+bc,+bd,+be,+bf,+bg,+bh,+ca,+cb,+cc,+cd");
        performText(board, "+ce,-ce");
        Check.due("no more room", CrosswordBoard.TOO_MANY, board.stopped());
        board.undo();
        Check.due("undo does not change it", CrosswordBoard.TOO_MANY, board.stopped());
        board.save();
        performText(board, "af55>,af55>");
        Check.due("no new tile", -14, board.stopped());
        board.restore();
        Check.due("restore does not change it", -14, board.stopped());
    }

    private static void performText(CrosswordBoard board, String text) {
        board.clearText();
        Check.write(board, text);
        board.perform();
    }
}
