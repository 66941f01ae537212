/** The edges of the section 'Text' and of the promises 7 to 11. */
final class TextEdges {
    /**
     * A beginning of a list, the characters that a list may go on with so that it is not complete
     * yet, and those that make it complete. Every other character is a fault.
     */
    private static final String[][] BEGINNINGS = {
        {"", "abcdefgh+-", ""},
        {"+", "abcdefgh", ""},
        {"-", "abcdefgh", ""},
        {"+a", "", "abcdefgh"},
        {"-h", "", "abcdefgh"},
        {"+ab", ",", "abcdefgh"},
        {"-abcdef", ",", "abcdefgh"},
        {"+abcdefg", ",", ""},
        {"-hhhhhhh", ",", ""},
        {"a", "abcdefgh", ""},
        {"h", "abcdefgh", ""},
        {"ab", "abcdefgh123456789", ""},
        {"abcdef", "abcdefgh123456789", ""},
        {"abcdefg", "123456789", ""},
        {"ab1", "123456789", ""},
        {"abcdefg9", "123456789", ""},
        {"ab11", "", ">v"},
        {"abcdefg99", "", ">v"},
        {"ab11>", ",", ""},
        {"hh99v", ",", ""},
        {"+ab,", "abcdefgh+-", ""},
        {"ab11>,", "abcdefgh+-", ""},
        {"-ab,+", "abcdefgh", ""},
        {"ab11v,ab", "abcdefgh123456789", ""},
        {"ab11v,ab99", "", ">v"},
        {"+ab,-cd,ef12v,+abcdefg", ",", ""},
    };

    private TextEdges() {
    }

    static void run() {
        Check.topic("text");
        charactersOfTheText();
        eightyCharacters();
        clearedTexts();
        eachCharacterAfterEachBeginning();
        faultsAtTheEndOfAFullText();
        textsOfAnyLength();
        performWithAFault();
        performOfOneOrder();
        performOfTwentyOrders();
        performStopsWhereAnErrorIs();
        performStopsForEachError();
        performIsOneAction();
        rowsAndColumnsOfOrders();
        stoppedAtFirst();
        stoppedIsTheLatest();
        stoppedOutlivesTheState();
    }

    private static void write(CrosswordBoard board, String text) {
        board.clearText();
        Check.write(board, text);
    }

    /** "character: 32 to 126". */
    private static void charactersOfTheText() {
        CrosswordBoard board = new CrosswordBoard();
        for (int character = 28; character <= 31; character++) {
            Check.due("append " + character, CrosswordBoard.BAD_VALUE, board.append(character));
        }
        for (int character = 127; character <= 300; character++) {
            Check.due("append " + character, CrosswordBoard.BAD_VALUE, board.append(character));
        }
        Check.due("length", 0, board.count(11));
        for (int character = 32; character <= 126; character++) {
            Check.due("append " + character, 1, board.append(character));
            Check.due("clear", 1, board.clearText());
        }
        int[] far = {0, -1, 32 - 256, 32 + 256, 32 + 65536, -32, Integer.MAX_VALUE, Integer.MIN_VALUE};
        for (int character : far) {
            Check.due("append " + character, CrosswordBoard.BAD_VALUE, board.append(character));
        }
    }

    /** "There is a text of at most 80 characters"; "TOO_MANY if the text has 80 characters." */
    private static void eightyCharacters() {
        CrosswordBoard board = new CrosswordBoard();
        for (int length = 1; length <= 79; length++) {
            Check.due("append", length, board.append(','));
        }
        Check.due("the 80th", 80, board.append('~'));
        Check.due("the 81st", CrosswordBoard.TOO_MANY, board.append('~'));
        Check.due("the 81st once more", CrosswordBoard.TOO_MANY, board.append(32));
        Check.due("BAD_VALUE before TOO_MANY", CrosswordBoard.BAD_VALUE, board.append(31));
        Check.due("BAD_VALUE before TOO_MANY", CrosswordBoard.BAD_VALUE, board.append(127));
        Check.due("length", 80, board.count(11));
        Check.due("clear", 80, board.clearText());
        Check.due("room again", 1, board.append('~'));
    }

    /** "Returns the length that the text had": 0, 1 and so on; then the text is empty. */
    private static void clearedTexts() {
        CrosswordBoard board = new CrosswordBoard();
        for (int length = 0; length <= 20; length++) {
            for (int i = 0; i < length; i++) {
                board.append('a');
            }
            Check.due("clear", length, board.clearText());
            Check.due("length", 0, board.count(11));
            Check.due("clear an empty text", 0, board.clearText());
            Check.due("fault of an empty text", 0, board.fault());
        }
    }

    /** "the first character such that no list ... begins with the characters up to and including it." */
    private static void eachCharacterAfterEachBeginning() {
        for (String[] row : BEGINNINGS) {
            for (char character = 32; character <= 126; character++) {
                String text = row[0] + character;
                CrosswordBoard board = new CrosswordBoard();
                Check.write(board, text);
                if (row[2].indexOf(character) >= 0) {
                    Check.due("'" + text + "' is complete", CrosswordBoard.NONE, board.fault());
                } else if (row[1].indexOf(character) >= 0) {
                    Check.due("'" + text + "' can go on", text.length(), board.fault());
                } else {
                    Check.due("'" + text + "' has a fault", row[0].length(), board.fault());
                    // What comes behind the first wrong character does not matter.
                    Check.write(board, "a,+ab");
                    Check.due("'" + text + "a,+ab' has a fault", row[0].length(), board.fault());
                    Check.due("perform", -100 - row[0].length(), board.perform());
                }
            }
        }
    }

    /** "If there is no such character, but the text is not a complete list ..., the fault is the length". */
    private static void faultsAtTheEndOfAFullText() {
        endOfAFullText("+abc", CrosswordBoard.NONE);
        endOfAFullText("-aa,", 80);
        endOfAFullText("abcd", 80);
        endOfAFullText("ab12", 80);
        endOfAFullText("abc1", 80);
        endOfAFullText("abc,", 79);
        endOfAFullText("ab>v", 78);
        endOfAFullText("a1>v", 77);
        endOfAFullText(",+ab", 76);
        endOfAFullText("+a,a", 78);
        endOfAFullText("+ab~", 79);
    }

    /** A text of 80 characters that begins with 19 complete orders and their commas. */
    private static void endOfAFullText(String end, int due) {
        CrosswordBoard board = new CrosswordBoard();
        for (int i = 0; i < 19; i++) {
            Check.write(board, "-aa,");
        }
        Check.write(board, end);
        Check.due("length", 80, board.count(11));
        Check.due("fault with '" + end + "' at the end", due, board.fault());
        Check.due("the 81st", CrosswordBoard.TOO_MANY, board.append('a'));
        Check.due("fault with '" + end + "' at the end", due, board.fault());
        Check.due("perform", due < 0 ? 0 : -100 - due, board.perform());
    }

    /** "no list, of any length": a list that would be longer than 80 characters counts too. */
    private static void textsOfAnyLength() {
        CrosswordBoard board = new CrosswordBoard();
        for (int i = 0; i < 11; i++) {
            Check.write(board, "abcd11>,");
        }
        Check.due("80 characters, a comma at the end", 80, board.fault());
        board.clearText();
        for (int i = 0; i < 9; i++) {
            Check.write(board, "abcd11>,");
        }
        Check.write(board, "abcde11>");
        Check.due("80 characters, complete", CrosswordBoard.NONE, board.fault());
    }

    /** "-100 minus the fault (an error code) if the text is not a complete list": nothing is carried out. */
    private static void performWithAFault() {
        CrosswordBoard board = Check.withWords("ab");
        Check.due("the empty text", -100, board.perform());
        String[] texts = {"+", "+a", "+aa,", "+aa,+a", "+aa,-ab,x", "+aa;", "+aa,ab55", "+aa,ab55<"};
        int[] faults = {1, 2, 4, 6, 8, 3, 8, 8};
        for (int i = 0; i < texts.length; i++) {
            write(board, texts[i]);
            Check.due("perform '" + texts[i] + "'", -100 - faults[i], board.perform());
            Check.due("words", 1, board.count(0));
            Check.due("states", 1, board.count(10));
            Check.due("the text does not change", texts[i].length(), board.count(11));
            Check.due("stopped", CrosswordBoard.NONE, board.stopped());
        }
    }

    /** The shortest list: one order. */
    private static void performOfOneOrder() {
        CrosswordBoard board = new CrosswordBoard();
        write(board, "+ae");
        Check.due("perform", 1, board.perform());
        Check.due("words", 1, board.count(0));
        Check.due("again", 0, board.perform());
        Check.due("stopped", CrosswordBoard.NOT_POSSIBLE, board.stopped());
        write(board, "ae55>");
        Check.due("perform", 1, board.perform());
        Check.due("score", 2, board.score(0));
        write(board, "-ae");
        Check.due("perform", 1, board.perform());
        Check.due("words", 0, board.count(0));
        Check.due("again", 0, board.perform());
        Check.due("stopped", CrosswordBoard.NO_SUCH, board.stopped());
    }

    /** The longest list: twenty orders on 80 characters. */
    private static void performOfTwentyOrders() {
        String add = "+aa,+ab,+ac,+ad,+ae,+af,+ag,+ah,+ba,+bb,+bc,+bd,+be,+bf,+bg,+bh,+ca,+cb,+cc,+cda";
        CrosswordBoard board = new CrosswordBoard();
        write(board, add);
        Check.due("80 characters", 80, board.count(11));
        Check.due("perform", 20, board.perform());
        Check.due("words", 20, board.count(0));
        Check.due("word 19", Check.code("cda"), board.word(19));
        Check.due("one state", 1, board.count(10));
        Check.due("stopped", CrosswordBoard.NONE, board.stopped());
        write(board, add.replace('+', '-'));
        Check.due("perform", 20, board.perform());
        Check.due("words", 0, board.count(0));
        Check.due("undo", 1, board.undo());
        Check.due("words", 20, board.count(0));
        Check.due("undo", 0, board.undo());
        Check.due("words", 0, board.count(0));
        // The 20th order is the first one with an error.
        board.addWord(Check.code("cda"));
        write(board, add);
        Check.due("perform", 19, board.perform());
        Check.due("words", 20, board.count(0));
        Check.due("stopped", CrosswordBoard.NOT_POSSIBLE, board.stopped());
    }

    /** "up to the first one for which this method would return an error code": the rest is left. */
    private static void performStopsWhereAnErrorIs() {
        String[] orders = {"+aa", "+ab", "+ac", "+ad"};
        for (int wrong = 0; wrong < 4; wrong++) {
            StringBuilder text = new StringBuilder();
            for (int i = 0; i < 4; i++) {
                text.append(i > 0 ? "," : "").append(i == wrong ? "-hh" : orders[i]);
            }
            CrosswordBoard board = new CrosswordBoard();
            write(board, text.toString());
            Check.due("perform '" + text + "'", wrong, board.perform());
            Check.due("words", wrong, board.count(0));
            Check.due("stopped", CrosswordBoard.NO_SUCH, board.stopped());
            Check.due("states", 1, board.count(10));
            Check.due("the text does not change", 15, board.count(11));
            Check.due("the text does not change", CrosswordBoard.NONE, board.fault());
        }
    }

    /** "as addWord ("+"), dropWord ("-") and play do": each error code that they may return for an order. */
    private static void performStopsForEachError() {
        String[] texts = {"+ae", "-hh", "hh55>", "ae59>", "ea55>", "ae55>", "aa57>", "aa11>", "ae65>",
            "af55v"};
        int[] errors = {-4, -1, -11, -12, -13, -14, -15, -16, -17, -18};
        for (int i = 0; i < texts.length; i++) {
            CrosswordBoard board = Check.withWords("ae", "ea", "aa", "af");
            Check.across(board, "ae", 40);
            write(board, "+ch," + texts[i] + ",+gh");
            Check.due("perform of '" + texts[i] + "'", 1, board.perform());
            Check.due("stopped at '" + texts[i] + "'", errors[i], board.stopped());
            Check.due("words", 5, board.count(0));
            Check.due("plays", 1, board.count(7));
        }
        CrosswordBoard full = new CrosswordBoard();
        write(full, "+aa,+ab,+ac,+ad,+ae,+af,+ag,+ah,+ba,+bb,+bc,+bd,+be,+bf,+bg,+bh,+ca,+cb,+cc");
        Check.due("19 words", 19, full.perform());
        write(full, "+cd,+ce");
        Check.due("20 words", 1, full.perform());
        Check.due("stopped", CrosswordBoard.TOO_MANY, full.stopped());
        write(full, "+aa");
        Check.due("a word of the full list", 0, full.perform());
        Check.due("stopped", CrosswordBoard.NOT_POSSIBLE, full.stopped());
    }

    /** "This is one action, even if no order is carried out." */
    private static void performIsOneAction() {
        CrosswordBoard board = new CrosswordBoard();
        write(board, "+ae,ae55>,+ac,ac55v,-ae");
        Check.due("five orders", 5, board.perform());
        Check.due("one state", 1, board.count(10));
        Check.due("no order", 0, performed(board, "ae55>,+ha"));
        Check.due("two states", 2, board.count(10));
        Check.due("two orders", 2, performed(board, "+ha,-ha"));
        Check.due("three states", 3, board.count(10));
        Check.due("undo", 2, board.undo());
        Check.due("undo", 1, board.undo());
        Check.due("tiles", 3, board.count(1));
        Check.due("undo", 0, board.undo());
        Check.due("tiles", 0, board.count(1));
        Check.due("words", 0, board.count(0));
    }

    private static int performed(CrosswordBoard board, String text) {
        write(board, text);
        return board.perform();
    }

    /** "a row and a column are digits from 1 to 9 (for 0 to 8)": the row comes first. */
    private static void rowsAndColumnsOfOrders() {
        for (int row = 0; row <= 8; row++) {
            for (int column = 0; column <= 8; column++) {
                CrosswordBoard board = Check.withWords("aa");
                char digitOfRow = (char) ('1' + row);
                char digitOfColumn = (char) ('1' + column);
                boolean fits = row == 4 && (column == 3 || column == 4);
                int due = column == 8 ? -12 : fits ? CrosswordBoard.NONE : -16;
                Check.due("perform", fits ? 1 : 0, performed(board, "aa" + digitOfRow + digitOfColumn + ">"));
                Check.due("stopped", due, board.stopped());
                Check.due("tile", fits ? 1 : 0, board.tile(9 * row + column));
                board = Check.withWords("aa");
                fits = column == 4 && (row == 3 || row == 4);
                due = row == 8 ? -12 : fits ? CrosswordBoard.NONE : -16;
                Check.due("perform", fits ? 1 : 0, performed(board, "aa" + digitOfRow + digitOfColumn + "v"));
                Check.due("stopped", due, board.stopped());
                Check.due("tile", fits ? 1 : 0, board.tile(9 * row + column));
            }
        }
    }

    /** "NONE if no perform has been ended by an error code (a text with a fault does not count)." */
    private static void stoppedAtFirst() {
        CrosswordBoard board = new CrosswordBoard();
        Check.due("at first", CrosswordBoard.NONE, board.stopped());
        Check.due("a fault", -100, board.perform());
        Check.due("a fault does not count", CrosswordBoard.NONE, board.stopped());
        Check.due("a fault", -103, performed(board, "-aa-"));
        Check.due("a fault does not count", CrosswordBoard.NONE, board.stopped());
        Check.due("all orders", 1, performed(board, "+ae"));
        Check.due("not ended by an error", CrosswordBoard.NONE, board.stopped());
        board.dropWord(10);
        board.addWord(14);
        board.play(14, 80, false);
        board.restore();
        board.append(31);
        Check.due("errors of other methods do not count", CrosswordBoard.NONE, board.stopped());
        Check.due("the first stop", 0, performed(board, "-aa"));
        Check.due("the first stop", CrosswordBoard.NO_SUCH, board.stopped());
    }

    /** "the error code that ended the latest perform that was ended by one." */
    private static void stoppedIsTheLatest() {
        CrosswordBoard board = Check.withWords("ae");
        performed(board, "-aa");
        Check.due("-1", CrosswordBoard.NO_SUCH, board.stopped());
        performed(board, "+ae");
        Check.due("-4", CrosswordBoard.NOT_POSSIBLE, board.stopped());
        performed(board, "ae11>");
        Check.due("-16", -16, board.stopped());
        performed(board, "ae55>");
        Check.due("a perform without an error keeps it", -16, board.stopped());
        performed(board, "ae55>,");
        Check.due("a fault keeps it", -16, board.stopped());
        performed(board, "ae55>");
        Check.due("-14", -14, board.stopped());
        board.clearText();
        board.stopped();
        Check.due("asked twice", -14, board.stopped());
    }

    /** "The text, the snapshot and the latest stop do not change", by undo; nor by restore. */
    private static void stoppedOutlivesTheState() {
        CrosswordBoard board = new CrosswordBoard();
        board.save();
        performed(board, "+ae,+ae");
        Check.due("undo", 0, board.undo());
        Check.due("words", 0, board.count(0));
        Check.due("after undo of the perform itself", CrosswordBoard.NOT_POSSIBLE, board.stopped());
        Check.due("text", 7, board.count(11));
        board.undo();
        Check.due("after undo of nothing", CrosswordBoard.NOT_POSSIBLE, board.stopped());
        board.restore();
        Check.due("after restore", CrosswordBoard.NOT_POSSIBLE, board.stopped());
        Check.due("text", 7, board.count(11));
        board.save();
        Check.due("after save", CrosswordBoard.NOT_POSSIBLE, board.stopped());
        performed(board, "-ae");
        board.restore();
        Check.due("after restore", CrosswordBoard.NO_SUCH, board.stopped());
    }
}
