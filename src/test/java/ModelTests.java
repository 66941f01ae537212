import java.util.List;
import java.util.Random;
import java.util.TreeMap;

/**
 * All promises together: the program answers as the slow model does, in random runs of at most 512
 * calls. The runs are the same each time; -Druns=N makes N of them.
 */
final class ModelTests {
    private static final int CALLS = 512;
    private static final int[] ODD = {
        -1, 0, 1, 2, 3, 8, 9, 12, 20, 80, 81, Integer.MAX_VALUE, Integer.MIN_VALUE, 4782969, 90};

    private final Random random;
    private final CrosswordBoard board = new CrosswordBoard();
    private final SlowModel model = new SlowModel();
    private final StringBuilder log = new StringBuilder();
    private final TreeMap<String, Integer> seen;
    private final String letters;
    /** Whether the tiles are to be played fast, so that the racks become empty. */
    private final boolean isFast;
    private int calls;
    private boolean wrong;

    private ModelTests(long seed, TreeMap<String, Integer> seen) {
        random = new Random(seed);
        this.seen = seen;
        String[] mixes = {"abcdefgh", "ae", "aeh", "aaaaeeeehhbcd", "aaeebcdfgh"};
        letters = mixes[random.nextInt(mixes.length)];
        isFast = seed % 3 == 0;
    }

    static void run() {
        Check.topic("random runs");
        int runs = Integer.getInteger("runs", 200);
        TreeMap<String, Integer> seen = new TreeMap<>();
        for (int seed = 0; seed < runs; seed++) {
            new ModelTests(seed, seen).oneRun(seed);
        }
        for (int reason = 1; reason <= 8; reason++) {
            Check.isTrue("a play was refused for the reason " + reason,
                seen.containsKey("play " + (-10 - reason)));
            Check.isTrue("a perform was stopped by the reason " + reason,
                seen.containsKey("stopped " + (-10 - reason)));
        }
        String[] rare = {"addWord -3", "addWord -4", "append -3", "dropWord -1", "swap -4",
            "restore -4", "undo -5", "bag 0", "fault 80", "letters 7", "cross 0", "swap 0", "swap 6",
            "board 38"};
        for (String event : rare) {
            Check.isTrue("there was " + event, seen.containsKey(event));
        }
    }

    private void oneRun(int seed) {
        int words = random.nextInt(22);
        for (int i = 0; i < words; i++) {
            addWord(Check.code(randomWord()));
        }
        while (calls < CALLS - 90 && !wrong) {
            step();
        }
        if (!wrong && calls < CALLS) {
            lastQueries();
        }
        Check.isTrue("run " + seed + " of the calls " + log, !wrong);
    }

    private void same(String call, String kind, float got, float want) {
        calls++;
        log.append(' ').append(call);
        seen.merge(kind + " " + (int) got, 1, Integer::sum);
        if (got != want && !wrong) {
            wrong = true;
            log.append(" answered ").append(got).append(", due is ").append(want);
        }
    }

    private void step() {
        if (isFast && random.nextInt(4) > 0) {
            rackPlay();
            return;
        }
        switch (random.nextInt(16)) {
            case 0: addWord(anyCode()); break;
            case 1: addWord(Check.code(fittingWord())); break;
            case 2: if (random.nextInt(3) == 0) { dropWord(anyCode()); } break;
            case 3: case 4: case 5: case 6: bestPlay(); break;
            case 7: case 8: anyPlay(); break;
            case 9: turn(); break;
            case 10: if (random.nextInt(4) == 0) { text(); } break;
            case 11: history(); break;
            case 12: case 13: squareQueries(); break;
            case 14: search(); break;
            default: oddQueries(); break;
        }
    }

    private String randomWord() {
        int most = random.nextInt(3) == 0 ? 7 : 3;
        int length = 2 + random.nextInt(most - 1);
        StringBuilder word = new StringBuilder();
        for (int i = 0; i < length; i++) {
            word.append(letters.charAt(random.nextInt(letters.length())));
        }
        return word.toString();
    }

    /** A word that a new tile makes of a run, or a random one. */
    private String fittingWord() {
        for (int tries = 0; tries < 20; tries++) {
            int run = model.run(random.nextInt(81), random.nextBoolean());
            String old = run > 0 ? SlowModel.wordOf(run) : null;
            if (old != null && old.length() < 7) {
                char letter = letters.charAt(random.nextInt(letters.length()));
                return random.nextBoolean() ? letter + old : old + letter;
            }
        }
        return randomWord();
    }

    private int odd() {
        return ODD[random.nextInt(ODD.length)];
    }

    private int anyCode() {
        int choice = random.nextInt(10);
        if (choice == 0) {
            return odd();
        }
        return choice < 4 ? Check.code(randomWord()) : listedCode();
    }

    private int listedCode() {
        if (model.words().isEmpty()) {
            return 10;
        }
        return Check.code(model.words().get(random.nextInt(model.words().size())));
    }

    private int anySquare() {
        return random.nextInt(30) == 0 ? odd() : random.nextInt(81);
    }

    private void addWord(int code) {
        same("addWord(" + code + ")", "addWord", board.addWord(code), model.addWord(code));
    }

    private void dropWord(int code) {
        same("dropWord(" + code + ")", "dropWord", board.dropWord(code), model.dropWord(code));
    }

    private void play(int code, int square, boolean isDown) {
        if (random.nextInt(8) == 0) {
            reason(code, square, isDown);
        }
        int got = board.play(code, square, isDown);
        same("play(" + code + ", " + square + ", " + isDown + ")", "play", got,
            model.play(code, square, isDown));
        if (got >= 0) {
            seen.merge("letters " + SlowModel.wordOf(code).length(), 1, Integer::sum);
            seen.merge("bag " + model.count(2), 1, Integer::sum);
            seen.merge("board " + model.count(1), 1, Integer::sum);
        }
    }

    private void reason(int code, int square, boolean isDown) {
        String arguments = "(" + code + ", " + square + ", " + isDown + ")";
        same("reason" + arguments, "reason", board.reason(code, square, isDown),
            model.reason(code, square, isDown));
        same("worth" + arguments, "worth", board.worth(code, square, isDown),
            model.worth(code, square, isDown));
    }

    private void bestPlay() {
        int word = board.best(3);
        int square = board.best(1);
        boolean isDown = board.best(2) == 1;
        calls += 3;
        log.append(" best(3) best(1) best(2)");
        if (word >= 0) {
            play(model.word(word), square, isDown);
        } else if (random.nextInt(3) == 0) {
            turn();
        } else {
            addWord(Check.code(fittingWord()));
        }
    }

    /** A random place, but often one that begins at or before a tile or an anchor. */
    private void anyPlay() {
        int square = anySquare();
        for (int tries = 0; tries < 8 && model.anchor(square) != 1; tries++) {
            square = random.nextInt(81);
        }
        boolean isDown = random.nextBoolean();
        int back = random.nextInt(4) * (isDown ? 9 : 1);
        int start = back <= square && square < 81 ? square - back : square;
        if (random.nextInt(3) > 0) {
            reason(anyCode(), start, isDown);
        } else {
            play(anyCode(), start, isDown);
        }
    }

    /** A play with many tiles of the rack, for which the words that it needs are put in the list. */
    private void rackPlay() {
        for (int tries = 0; tries < 200; tries++) {
            int square = random.nextInt(81);
            boolean isDown = random.nextBoolean();
            List<String> needed = model.fittingPlay(square, isDown, 7 - random.nextInt(6), random);
            if (needed != null) {
                listAll(needed);
                play(Check.code(needed.get(0)), square, isDown);
                return;
            }
        }
        turn();
    }

    private void listAll(List<String> needed) {
        for (String word : needed) {
            for (int i = 0; model.words().size() == 20 && i < 20; i++) {
                String old = model.words().get(i);
                if (!needed.contains(old)) {
                    dropWord(Check.code(old));
                }
            }
            addWord(Check.code(word));
        }
    }

    private void turn() {
        if (random.nextBoolean()) {
            same("pass()", "pass", board.pass(), model.pass());
        } else {
            same("swap()", "swap", board.swap(), model.swap());
        }
    }

    private String randomOrder() {
        int kind = random.nextInt(4);
        String word = random.nextInt(3) == 0 ? randomWord() : SlowModel.wordOf(listedCode());
        if (kind <= 1) {
            return (kind == 0 ? "+" : "-") + word;
        }
        int square = random.nextInt(81);
        if (random.nextInt(5) == 0) {
            for (int tries = 0; tries < 40; tries++) {
                square = random.nextInt(81);
                int run = model.run(square, false);
                if (run > 0) {
                    return SlowModel.wordOf(run) + (square / 9 + 1) + (square % 9 + 1) + ">";
                }
            }
        }
        for (int tries = 0; tries < 8 && model.anchor(square) != 1; tries++) {
            square = random.nextInt(81);
        }
        return word + (square / 9 + 1) + (square % 9 + 1) + (random.nextBoolean() ? ">" : "v");
    }

    private void text() {
        if (random.nextInt(3) > 0) {
            same("clearText()", "clearText", board.clearText(), model.clearText());
        } else if (!model.text().isEmpty()) {
            append(',');
        }
        StringBuilder text = new StringBuilder(randomOrder());
        int orders = random.nextInt(40) == 0 ? 40 : random.nextInt(5);
        for (int i = 0; i < orders; i++) {
            text.append(',').append(randomOrder());
        }
        if (random.nextInt(4) == 0) {
            String odd = "+-,abhiv>019:<@ zA";
            text.setCharAt(random.nextInt(text.length()), odd.charAt(random.nextInt(odd.length())));
        }
        for (int i = 0; i < text.length() && i < 82 && calls < CALLS - 90; i++) {
            append(text.charAt(i));
        }
        same("fault()", "fault", board.fault(), model.fault());
        same("perform()", "perform", board.perform(), model.perform());
        same("stopped()", "stopped", board.stopped(), model.stopped());
    }

    private void append(int character) {
        same("append(" + character + ")", "append", board.append(character), model.append(character));
    }

    private void history() {
        switch (random.nextInt(6)) {
            case 0: same("save()", "save", board.save(), model.save()); break;
            case 1: same("restore()", "restore", board.restore(), model.restore()); break;
            case 2:
                for (int times = random.nextInt(7); times >= 0; times--) {
                    same("undo()", "undo", board.undo(), model.undo());
                }
                break;
            default: same("count(10)", "states", board.count(10), model.count(10)); break;
        }
    }

    private void squareQueries() {
        int square = anySquare();
        boolean isDown = random.nextBoolean();
        String arguments = "(" + square + ", " + isDown + ")";
        same("tile(" + square + ")", "tile", board.tile(square), model.tile(square));
        same("anchor(" + square + ")", "anchor", board.anchor(square), model.anchor(square));
        same("run" + arguments, "run", board.run(square, isDown), model.run(square, isDown));
        same("crossCheck" + arguments, "cross", board.crossCheck(square, isDown),
            model.crossCheck(square, isDown));
    }

    private void search() {
        if (random.nextInt(2) == 0) {
            same("plays()", "plays", board.plays(), model.plays());
        } else {
            int what = random.nextInt(6) - 1;
            same("best(" + what + ")", "best", board.best(what), model.best(what));
        }
    }

    private void oddQueries() {
        int number = random.nextInt(3) == 0 ? odd() : random.nextInt(20);
        int player = random.nextInt(20) == 0 ? odd() : random.nextInt(3);
        int letter = random.nextInt(20) == 0 ? odd() : 1 + random.nextInt(8);
        int what = random.nextInt(20) == 0 ? odd() : random.nextInt(12);
        same("word(" + number + ")", "word", board.word(number), model.word(number));
        same("tiles(" + player + ", " + letter + ")", "tiles", board.tiles(player, letter),
            model.tiles(player, letter));
        same("score(" + player + ")", "score", board.score(player), model.score(player));
        same("count(" + what + ")", "count " + what, board.count(what), model.count(what));
        same("average()", "average", board.average(), model.average());
        if (random.nextInt(30) == 0) {
            append(random.nextBoolean() ? odd() : 127);
        }
    }

    /** Fewer than 90 calls that tell what the state has become. */
    private void lastQueries() {
        for (int what = 0; what < 12; what++) {
            same("count(" + what + ")", "last", board.count(what), model.count(what));
        }
        for (int letter = 1; letter <= 8; letter++) {
            for (int player = 0; player <= 2; player++) {
                same("tiles(" + player + ", " + letter + ")", "last", board.tiles(player, letter),
                    model.tiles(player, letter));
            }
        }
        same("score(0)", "last", board.score(0), model.score(0));
        same("score(1)", "last", board.score(1), model.score(1));
        for (int square = random.nextInt(2); square < 81; square += 2) {
            same("tile(" + square + ")", "last", board.tile(square), model.tile(square));
        }
        same("stopped()", "last", board.stopped(), model.stopped());
    }
}
