import java.lang.reflect.Constructor;
import java.lang.reflect.Field;
import java.lang.reflect.Method;
import java.lang.reflect.Modifier;
import java.util.TreeSet;

/** The public face, and promise 1: a new object. */
final class FaceTests {
    private static final String[] METHODS = {
        "int addWord(int)", "int dropWord(int)", "int play(int,int,boolean)", "int pass()",
        "int swap()", "int append(int)", "int clearText()", "int fault()", "int perform()",
        "int stopped()", "int undo()", "int save()", "int restore()", "int word(int)",
        "int tile(int)", "int run(int,boolean)", "int crossCheck(int,boolean)", "int anchor(int)",
        "int tiles(int,int)", "int score(int)", "int count(int)", "int reason(int,int,boolean)",
        "int worth(int,int,boolean)", "int plays()", "int best(int)", "float average()",
    };

    private FaceTests() {
    }

    static void run() throws Exception {
        constants();
        face();
        promise1NewObject();
        promise1ObjectsOfTheirOwn();
    }

    private static void constants() {
        Check.topic("constants");
        Check.due("NO_SUCH", -1, CrosswordBoard.NO_SUCH);
        Check.due("BAD_VALUE", -2, CrosswordBoard.BAD_VALUE);
        Check.due("TOO_MANY", -3, CrosswordBoard.TOO_MANY);
        Check.due("NOT_POSSIBLE", -4, CrosswordBoard.NOT_POSSIBLE);
        Check.due("NONE", -5, CrosswordBoard.NONE);
    }

    private static void face() {
        Check.topic("face");
        Class<?> type = CrosswordBoard.class;
        Check.due("modifiers", Modifier.PUBLIC | Modifier.FINAL, type.getModifiers());
        TreeSet<String> want = new TreeSet<>();
        for (String method : METHODS) {
            want.add("public " + method);
        }
        TreeSet<String> got = new TreeSet<>();
        TreeSet<String> publicNames = new TreeSet<>();
        for (Method method : type.getDeclaredMethods()) {
            if (!Modifier.isPrivate(method.getModifiers())) {
                got.add(method.toString().replace("CrosswordBoard.", ""));
                publicNames.add(method.getName());
            }
        }
        Check.due("methods", want.toString(), got.toString());
        for (Class<?> inside : type.getDeclaredClasses()) {
            int modifiers = inside.getModifiers();
            Check.isTrue(inside + " is private", Modifier.isPrivate(modifiers));
            Check.isTrue(inside + " is static", Modifier.isStatic(modifiers));
            for (Method method : inside.getDeclaredMethods()) {
                Check.isTrue(method + " has a name of its own",
                    !publicNames.contains(method.getName()));
            }
        }
        for (Method method : type.getDeclaredMethods()) {
            Check.isTrue(method + " bears no name of the face", !publicNames.contains(method.getName())
                || Modifier.isPublic(method.getModifiers()));
        }
        int constants = 0;
        for (Field field : type.getDeclaredFields()) {
            if (!Modifier.isPrivate(field.getModifiers())) {
                constants++;
                Check.due(field + " modifiers", Modifier.PUBLIC | Modifier.STATIC | Modifier.FINAL,
                    field.getModifiers());
            }
        }
        Check.due("number of constants", 5, constants);
        Constructor<?>[] constructors = type.getDeclaredConstructors();
        Check.due("number of constructors", 1, constructors.length);
        Check.due("constructor", "public CrosswordBoard()", constructors[0].toString());
    }

    private static void promise1NewObject() {
        Check.topic("promise 1");
        CrosswordBoard board = new CrosswordBoard();
        for (int square = 0; square < 81; square++) {
            Check.due("tile " + square, 0, board.tile(square));
        }
        Check.due("rack 0", "aaefhh", Check.tiles(board, 0));
        Check.due("rack 1", "aacdgh", Check.tiles(board, 1));
        Check.due("bag", "aaaabbbbcccdddeeeeeeeffggh", Check.tiles(board, 2));
        int[] counts = {0, 0, 26, 1, 0, 0, 0, 0, 0, 0, 0, 0};
        for (int what = 0; what < counts.length; what++) {
            Check.due("count " + what, counts[what], board.count(what));
        }
        Check.due("word", CrosswordBoard.NO_SUCH, board.word(0));
        Check.due("score 0", 0, board.score(0));
        Check.due("score 1", 0, board.score(1));
        Check.due("fault", 0, board.fault());
        Check.due("stopped", CrosswordBoard.NONE, board.stopped());
        Check.due("undo", CrosswordBoard.NONE, board.undo());
        Check.due("restore", CrosswordBoard.NOT_POSSIBLE, board.restore());
        Check.due("plays", 0, board.plays());
        Check.due("best", CrosswordBoard.NONE, board.best(0));
        Check.isTrue("average is 0", board.average() == 0.0f);
    }

    private static void promise1ObjectsOfTheirOwn() {
        CrosswordBoard first = Check.withWords("ae");
        CrosswordBoard second = new CrosswordBoard();
        Check.across(first, "ae", 40);
        first.append('+');
        first.save();
        Check.due("words", 0, second.count(0));
        Check.due("tiles on the board", 0, second.count(1));
        Check.due("text", 0, second.count(11));
        Check.due("history", 0, second.count(10));
        Check.due("restore", CrosswordBoard.NOT_POSSIBLE, second.restore());
    }
}
