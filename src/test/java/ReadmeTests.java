import java.lang.reflect.Method;
import java.lang.reflect.Modifier;
import java.nio.charset.StandardCharsets;
import java.nio.file.Files;
import java.nio.file.Path;
import java.util.regex.Matcher;
import java.util.regex.Pattern;

/** README.md tells of every call, and the answers in its example are right. */
final class ReadmeTests {
    private static final Pattern CALL =
        Pattern.compile("board\\.(\\w+)\\((.*?)\\);\\s*// (-?\\d+): .*");
    private static final Pattern WRITE =
        Pattern.compile("for \\(char sign : \"(.*)\"\\.toCharArray\\(\\)\\) \\{ board\\.append\\(sign\\); \\}");
    private static final String NEW_BOARD = "CrosswordBoard board = new CrosswordBoard();";

    private ReadmeTests() {
    }

    static void run(String file) throws Exception {
        Check.topic("README.md");
        String text = Files.readString(Path.of(file), StandardCharsets.US_ASCII);
        for (Method method : CrosswordBoard.class.getDeclaredMethods()) {
            if (Modifier.isPublic(method.getModifiers())) {
                Check.isTrue(method.getName() + " is told", text.contains("`" + method.getName() + "("));
            }
        }
        int start = text.indexOf("```java\n");
        int end = text.indexOf("```\n", start + 1);
        Check.isTrue("there is an example", start >= 0 && end > start);
        if (start >= 0 && end > start) {
            example(text.substring(start + "```java\n".length(), end));
        }
    }

    private static void example(String code) throws Exception {
        CrosswordBoard board = new CrosswordBoard();
        for (String line : code.split("\n")) {
            Matcher call = CALL.matcher(line);
            Matcher write = WRITE.matcher(line);
            if (call.matches()) {
                int answer = answerOf(board, call.group(1), call.group(2));
                Check.due(line, Integer.parseInt(call.group(3)), answer);
            } else if (write.matches()) {
                Check.write(board, write.group(1));
            } else {
                Check.isTrue("'" + line + "' can be read", line.isBlank() || line.equals(NEW_BOARD));
            }
        }
    }

    private static int answerOf(CrosswordBoard board, String name, String arguments) throws Exception {
        String[] parts = arguments.isEmpty() ? new String[0] : arguments.split(", ");
        Object[] values = new Object[parts.length];
        Class<?>[] types = new Class<?>[parts.length];
        for (int i = 0; i < parts.length; i++) {
            boolean isDirection = parts[i].equals("true") || parts[i].equals("false");
            types[i] = isDirection ? boolean.class : int.class;
            values[i] = isDirection ? (Object) parts[i].equals("true") : (Object) numberOf(parts[i]);
        }
        return (int) CrosswordBoard.class.getMethod(name, types).invoke(board, values);
    }

    /** A number, or the code of a word of two letters as "8 * 9 + 5". */
    private static int numberOf(String text) {
        if (!text.contains("*")) {
            return Integer.parseInt(text);
        }
        String[] parts = text.split(" \\* | \\+ ");
        return Integer.parseInt(parts[0]) * Integer.parseInt(parts[1]) + Integer.parseInt(parts[2]);
    }
}
