import java.nio.charset.StandardCharsets;
import java.nio.file.Files;
import java.nio.file.Path;
import java.util.regex.Matcher;
import java.util.regex.Pattern;

/** Those rules of ../shared/LANGUAGE.md that can be read off the program's text. */
final class LanguageTests {
    private static final String[] FORBIDDEN = {
        "\\bimport\\b", "\\bpackage\\b", "\\bcatch\\b", "\\btry\\b", "\\bfinally\\b", "\\bassert\\b",
        "\\bsynchronized\\b", "->", "::", "\\bsuper\\b", "\\brecord\\b", "\\bThread\\b",
        "\\bRandom\\b", "Exact\\b", "\\bprotected\\b", "\\bextends\\b", "@", "\"", "\\bObject\\b",
    };

    private LanguageTests() {
    }

    static void run(String file) throws Exception {
        Check.topic("language");
        String text = Files.readString(Path.of(file), StandardCharsets.ISO_8859_1);
        Check.isTrue("the file is of ASCII alone", text.chars().allMatch(c -> c < 128));
        String code = text.replaceAll("(?s)/\\*.*?\\*/", "").replaceAll("//[^\n]*", "");
        for (String forbidden : FORBIDDEN) {
            Check.isTrue(forbidden + " does not appear", !Pattern.compile(forbidden).matcher(code).find());
        }
        Matcher library = Pattern.compile("\\b(System|Math|Arrays|Integer|Long|List|ArrayList)\\.\\w+")
            .matcher(code);
        while (library.find()) {
            Check.isTrue(library.group() + " is of the listed library",
                library.group().equals("System.arraycopy") || library.group().equals("Math.abs"));
        }
        Check.isTrue("at most twelve classes", code.split("\\bclass\\b").length - 1 <= 12);
        newOnlyInConstructorsAndFields(code);
    }

    /** All objects are made with the board, so that calls leave nothing behind. */
    private static void newOnlyInConstructorsAndFields(String code) {
        boolean isConstructor = false;
        for (String line : code.split("\n")) {
            if (line.matches("\\s*(public )?[A-Z]\\w*\\(\\) \\{")) {
                isConstructor = true;
            } else if (line.matches("\\s*(private |static |final )*\\w+(\\[\\])? \\w+\\(.*\\{")) {
                isConstructor = false;
            }
            if (line.matches(".*\\bnew [A-Za-z].*")) {
                Check.isTrue("'" + line.trim() + "' stands in a constructor or a field",
                    isConstructor || line.contains("final "));
            }
        }
    }
}
