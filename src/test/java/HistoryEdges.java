/** The edges of the section 'Actions and history' and of the promises 12 to 14. */
final class HistoryEdges {
    private static final String[] ACTIONS = {
        "addWord", "dropWord", "play", "pass", "swap", "perform", "restore"};

    private HistoryEdges() {
    }

    static void run() {
        Check.topic("history");
        emptyHistory();
        sizesOfTheHistory();
        sixthState();
        actionsAfterUndo();
        actionsThatChangeNothing();
        whatIsNoAction();
        refusedWithAFullHistory();
        wholeStateComesBack();
        drawsComeBack();
        restWithoutTheState();
        noSnapshot();
        snapshotOfTheFirstState();
        latestSnapshot();
        snapshotRemains();
        snapshotAndHistoryAreApart();
        lastCall();
    }

    /** Words aa, ab, .. in the list, as many as there are actions. */
    private static CrosswordBoard after(int actions) {
        CrosswordBoard board = new CrosswordBoard();
        for (int i = 0; i < actions; i++) {
            board.addWord(10 + i % 8 + 9 * (i / 8));
        }
        return board;
    }

    /** "NONE if the history is empty": at first, and when all states are taken back. */
    private static void emptyHistory() {
        CrosswordBoard board = Check.withWords();
        String before = Check.everything(board);
        Check.due("undo", CrosswordBoard.NONE, board.undo());
        Check.due("undo once more", CrosswordBoard.NONE, board.undo());
        Check.due("nothing is changed", before, Check.everything(board));
        board.pass();
        Check.due("the only state", 0, board.undo());
        Check.due("undo", CrosswordBoard.NONE, board.undo());
        Check.due("turn", 0, board.count(6));
        board.pass();
        Check.due("states", 1, board.count(10));
        Check.due("the only state", 0, board.undo());
    }

    /** "The history holds at most 5 states": 0 to 5, and still 5. */
    private static void sizesOfTheHistory() {
        for (int actions = 0; actions <= 20; actions++) {
            CrosswordBoard board = after(actions);
            int states = Math.min(actions, 5);
            Check.due("states after " + actions, states, board.count(10));
            for (int left = states - 1; left >= 0; left--) {
                Check.due("undo after " + actions, left, board.undo());
                Check.due("states", left, board.count(10));
                Check.due("words", actions - states + left, board.count(0));
            }
            Check.due("empty", CrosswordBoard.NONE, board.undo());
            Check.due("words", actions - states, board.count(0));
        }
    }

    private static int act(CrosswordBoard board, int action) {
        switch (action) {
            case 0: return board.addWord(Check.code("gg"));
            case 1: return board.dropWord(Check.code("ae"));
            case 2: return board.play(Check.code("ae"), 40, false);
            case 3: return board.pass();
            case 4: return board.swap();
            case 5: return board.perform();
            default: return board.restore();
        }
    }

    /** An object with so many states in its history, where each action is possible. */
    private static CrosswordBoard ready(int states) {
        CrosswordBoard board = Check.withWords("aa", "ab", "ac", "ad", "ae");
        while (board.undo() > 0) {
            // down to the empty history
        }
        board.addWord(Check.code("ae"));
        Check.write(board, "+gg,-hh");
        board.save();
        for (int i = 1; i < states; i++) {
            board.addWord(Check.code("ba") + i);
        }
        return board;
    }

    /** "when a sixth state is recorded, the oldest one is dropped": by each of the seven actions. */
    private static void sixthState() {
        for (int action = 0; action < ACTIONS.length; action++) {
            String name = ACTIONS[action];
            CrosswordBoard board = ready(5);
            Check.due("5 states before " + name, 5, board.count(10));
            Check.due("words before " + name, 5, board.count(0));
            Check.isTrue(name, act(board, action) >= 0);
            Check.due("5 states after " + name, 5, board.count(10));
            for (int left = 4; left >= 0; left--) {
                Check.due("undo after " + name, left, board.undo());
                Check.due("words", left + 1, board.count(0));
            }
            Check.due("the oldest one is dropped by " + name, CrosswordBoard.NONE, board.undo());
            Check.due("words", 1, board.count(0));
            // With four states before it, it is the fifth one, and none is dropped.
            board = ready(4);
            Check.isTrue(name, act(board, action) >= 0);
            Check.due("5 states after " + name, 5, board.count(10));
            for (int left = 4; left >= 0; left--) {
                Check.due("undo after " + name, left, board.undo());
                Check.due("words", left, board.count(0));
            }
            Check.due("empty", CrosswordBoard.NONE, board.undo());
        }
    }

    /** "Restores the latest state of the history and removes it": later actions take its place. */
    private static void actionsAfterUndo() {
        for (int undone = 1; undone <= 5; undone++) {
            CrosswordBoard board = after(7);
            for (int i = 0; i < undone; i++) {
                board.undo();
            }
            Check.due("words", 7 - undone, board.count(0));
            board.addWord(Check.code("hg"));
            Check.due("states", 6 - undone, board.count(10));
            Check.due("undo", 5 - undone, board.undo());
            Check.due("words", 7 - undone, board.count(0));
            for (int i = 0; i < 8; i++) {
                board.addWord(Check.code("ha") + i);
            }
            Check.due("states", 5, board.count(10));
            for (int left = 4; left >= 0; left--) {
                Check.due("undo", left, board.undo());
                Check.due("words", 7 - undone + 3 + left, board.count(0));
            }
            Check.due("empty", CrosswordBoard.NONE, board.undo());
        }
    }

    /** "records the state before it in the history, even if the action changes nothing." */
    private static void actionsThatChangeNothing() {
        CrosswordBoard board = Check.withWords("ae");
        String before = Check.state(board);
        Check.write(board, "-hh");
        Check.due("perform of nothing", 0, board.perform());
        Check.due("states", 2, board.count(10));
        board.save();
        Check.due("restore of the same", 0, board.restore());
        Check.due("states", 3, board.count(10));
        Check.due("state", before, Check.state(board));
        board.clearText();
        Check.write(board, "+aa,-aa");
        Check.due("perform there and back", 2, board.perform());
        Check.due("states", 4, board.count(10));
        Check.due("undo", 3, board.undo());
        Check.due("undo", 2, board.undo());
        Check.due("undo", 1, board.undo());
        Check.due("words", 1, board.count(0));
        Check.due("undo", 0, board.undo());
        Check.due("words", 0, board.count(0));
    }

    /** "The actions are addWord, dropWord, play, pass, swap, perform and restore": no other call is one. */
    private static void whatIsNoAction() {
        CrosswordBoard board = Check.withWords("ae", "aa");
        Check.write(board, "+ab");
        board.fault();
        board.clearText();
        board.clearText();
        board.stopped();
        board.save();
        board.word(0);
        board.tile(0);
        board.run(40, true);
        board.crossCheck(40, true);
        board.anchor(40);
        board.tiles(0, 1);
        board.score(0);
        board.count(0);
        board.reason(14, 40, true);
        board.worth(14, 40, true);
        board.plays();
        board.best(0);
        board.average();
        Check.due("states", 2, board.count(10));
        Check.due("undo is none itself", 1, board.undo());
        Check.due("states", 1, board.count(10));
        Check.due("words", 1, board.count(0));
        Check.due("save is none", 0, board.save());
        Check.due("undo", 0, board.undo());
        Check.due("words", 0, board.count(0));
    }

    /** "Each action that returns no error code records": a refused one keeps all five states. */
    private static void refusedWithAFullHistory() {
        String[] names = {"addWord of no code", "addWord of a word again", "dropWord of no code",
            "dropWord of no word of the list", "play of no code", "play on no square", "play",
            "perform of a fault", "restore"};
        for (int i = 0; i < names.length; i++) {
            CrosswordBoard board = after(12);
            for (int times = 1; times <= 7; times++) {
                Check.isTrue(names[i] + " is refused", refused(board, i) < 0);
            }
            Check.due("states", 5, board.count(10));
            for (int left = 4; left >= 0; left--) {
                Check.due("undo after a refused " + names[i], left, board.undo());
                Check.due("words after a refused " + names[i], 7 + left, board.count(0));
            }
            Check.due("empty", CrosswordBoard.NONE, board.undo());
        }
    }

    private static int refused(CrosswordBoard board, int call) {
        switch (call) {
            case 0: return board.addWord(9);
            case 1: return board.addWord(10);
            case 2: return board.dropWord(9);
            case 3: return board.dropWord(Check.code("gg"));
            case 4: return board.play(9, 40, false);
            case 5: return board.play(10, 81, false);
            case 6: return board.play(10, 0, false);
            case 7: return board.perform();
            default: return board.restore();
        }
    }

    /** "The state consists of the list of words, the board, the racks, the bag, x, the turn, ..." */
    private static void wholeStateComesBack() {
        CrosswordBoard board = Check.withWords("ae", "ac", "hac");
        Check.across(board, "ae", 40);
        Check.down(board, "ac", 40);
        board.pass();
        board.swap();
        board.save();
        String state = Check.state(board);
        board.undo();
        board.swap();
        Check.due("the same again", state, Check.state(board));
        Check.due("a play", 8, Check.down(board, "hac", 31));
        Check.due("undo", 4, board.undo());
        Check.due("state", state, Check.state(board));
        board.dropWord(Check.code("ae"));
        Check.due("a play", 8, Check.down(board, "hac", 31));
        board.swap();
        Check.due("restore", 3, board.restore());
        Check.due("state", state, Check.state(board));
    }

    /** x and the bag are of the state: after undo and after restore the same tiles are drawn. */
    private static void drawsComeBack() {
        CrosswordBoard board = Check.withWords("ae");
        board.save();
        board.swap();
        String first = Check.tiles(board, 0);
        board.swap();
        board.swap();
        Check.due("undo", 3, board.undo());
        Check.due("undo", 2, board.undo());
        Check.due("undo", 1, board.undo());
        board.swap();
        Check.due("after undo", first, Check.tiles(board, 0));
        board.swap();
        board.restore();
        board.swap();
        Check.due("after restore", first, Check.tiles(board, 0));
        board.undo();
        board.undo();
        Check.due("undo of restore", first, Check.tiles(board, 0));
    }

    /** "The text, the snapshot, the latest stop and the history itself are not part of the state." */
    private static void restWithoutTheState() {
        CrosswordBoard board = Check.withWords("ae");
        board.save();
        Check.write(board, "-hh");
        board.perform();
        board.pass();
        Check.write(board, ",+a");
        Check.due("undo", 2, board.undo());
        Check.due("undo", 1, board.undo());
        Check.due("text", 6, board.count(11));
        Check.due("stop", CrosswordBoard.NO_SUCH, board.stopped());
        Check.due("undo", 0, board.undo());
        Check.due("words", 0, board.count(0));
        Check.due("the snapshot is there", 0, board.restore());
        Check.due("words", 1, board.count(0));
        Check.due("restore leaves the history", 1, board.count(10));
        Check.due("text", 6, board.count(11));
        Check.due("stop", CrosswordBoard.NO_SUCH, board.stopped());
    }

    /** "NOT_POSSIBLE if there is no snapshot": a new object, with actions and undo too. */
    private static void noSnapshot() {
        CrosswordBoard board = new CrosswordBoard();
        Check.due("at first", CrosswordBoard.NOT_POSSIBLE, board.restore());
        Check.due("states", 0, board.count(10));
        board.addWord(14);
        Check.due("after an action", CrosswordBoard.NOT_POSSIBLE, board.restore());
        board.undo();
        Check.due("after undo", CrosswordBoard.NOT_POSSIBLE, board.restore());
        board.save();
        Check.due("after save", 0, board.restore());
    }

    /** A snapshot of a new object: "Returns the number of tiles on the board", none. */
    private static void snapshotOfTheFirstState() {
        CrosswordBoard board = new CrosswordBoard();
        String first = Check.state(board);
        Check.due("save", 0, board.save());
        board.addWord(14);
        Check.across(board, "ae", 40);
        board.swap();
        Check.due("restore", 0, board.restore());
        Check.due("the first state", first, Check.state(board));
        FreeGame game = FreeGame.ofAllTiles();
        Check.due("save of all tiles", 38, game.board.save());
        game.board.undo();
        Check.due("without the last play", 36, game.board.count(1));
        Check.due("restore of all tiles", 38, game.board.restore());
        Check.due("tiles", 38, game.board.count(1));
    }

    /** "Takes a snapshot of the state, which replaces the previous snapshot." */
    private static void latestSnapshot() {
        CrosswordBoard board = Check.withWords("ae", "aed");
        board.save();
        Check.across(board, "ae", 40);
        Check.due("the second", 2, board.save());
        Check.across(board, "aed", 40);
        Check.due("the third", 3, board.save());
        board.undo();
        board.undo();
        Check.due("restore", 3, board.restore());
        Check.due("save after undo", 3, board.save());
        board.undo();
        Check.due("tiles", 0, board.count(1));
        Check.due("the fourth", 0, board.save());
        Check.due("restore", 0, board.restore());
    }

    /** "The snapshot remains.": as often as one likes, whatever is done between. */
    private static void snapshotRemains() {
        CrosswordBoard board = Check.withWords("ae");
        Check.across(board, "ae", 40);
        board.save();
        for (int i = 0; i < 10; i++) {
            board.swap();
            board.addWord(10 + i);
            board.dropWord(14);
            Check.due("restore " + i, 2, board.restore());
            Check.due("words", 1, board.count(0));
            Check.due("word 0", 14, board.word(0));
            Check.due("swaps", 0, board.count(9));
            Check.due("turn", 1, board.count(6));
            Check.due("rack 1", "aacdgh", Check.tiles(board, 1));
            Check.due("restore again", 2, board.restore());
            Check.due("states", 5, board.count(10));
        }
    }

    /** The snapshot is none of the states: neither undo nor the sixth state touches it, nor it them. */
    private static void snapshotAndHistoryAreApart() {
        CrosswordBoard board = after(2);
        board.save();
        for (int i = 0; i < 6; i++) {
            board.addWord(Check.code("ha") + i);
        }
        while (board.undo() > 0) {
            // down to the empty history
        }
        Check.due("words", 3, board.count(0));
        board.restore();
        Check.due("words of the snapshot", 2, board.count(0));
        board.dropWord(10);
        Check.due("undo", 1, board.undo());
        Check.due("words of the snapshot", 2, board.count(0));
        Check.due("undo of restore", 0, board.undo());
        Check.due("words before restore", 3, board.count(0));
        board.save();
        board.restore();
        board.dropWord(10);
        board.restore();
        Check.due("undo", 2, board.undo());
        Check.due("words", 2, board.count(0));
    }

    /** "An object is used for at most 512 calls": the 512th is answered as all others are. */
    private static void lastCall() {
        CrosswordBoard passes = new CrosswordBoard();
        for (int call = 1; call <= 512; call++) {
            Check.due("pass " + call, call % 2, passes.pass());
        }
        CrosswordBoard swaps = new CrosswordBoard();
        for (int call = 1; call <= 511; call++) {
            Check.due("swap " + call, 6, swaps.swap());
        }
        Check.due("swaps", 511, swaps.count(9));
        CrosswordBoard undos = new CrosswordBoard();
        for (int call = 1; call <= 510; call++) {
            undos.pass();
        }
        Check.due("undo", 4, undos.undo());
        Check.due("passes", 509, undos.count(8));
        CrosswordBoard restores = new CrosswordBoard();
        restores.save();
        for (int call = 2; call <= 512; call++) {
            Check.due("restore " + call, 0, restores.restore());
        }
        CrosswordBoard words = new CrosswordBoard();
        for (int call = 1; call <= 512; call++) {
            Check.due("word " + call, 0, call % 2 == 1 ? words.addWord(10) : words.dropWord(10));
        }
        CrosswordBoard orders = new CrosswordBoard();
        Check.write(orders, "+aa,+ab,-aa,-ab");
        for (int call = 16; call <= 512; call++) {
            Check.due("perform " + call, 4, orders.perform());
        }
    }
}
