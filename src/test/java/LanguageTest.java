import java.io.IOException;
import java.nio.file.Files;
import java.nio.file.Path;
import java.util.Set;
import java.util.TreeSet;
import java.util.regex.Matcher;
import java.util.regex.Pattern;

/** The rules of LANGUAGE.md that can be seen in the source's text, once comments are gone. */
public final class LanguageTest {
    private static final int METHOD_LINES_MOST = 60;
    private static final int CLASSES_MOST = 12;

    private static final Checks checks = new Checks();

    public static void main(String[] args) throws IOException {
        String source = Files.readString(Path.of("src/main/java/SlideBoards.java"));
        String code = source.replaceAll("(?s)/\\*.*?\\*/", "").replaceAll("//[^\n]*", "");
        noWords(code);
        thrownClasses(code);
        libraryCalls(code);
        classesAreFew(code);
        methodsAreShort(code);
        checks.end();
    }

    private static Set<String> found(String code, String pattern) {
        Set<String> seen = new TreeSet<>();
        Matcher matcher = Pattern.compile(pattern).matcher(code);
        while (matcher.find()) {
            seen.add(matcher.group(1));
        }
        return seen;
    }

    /** Nothing is caught at all, so that nothing of the machine's is; rules 2, 4, 6, 13 and the one file of the first lines. */
    private static void noWords(String code) {
        String[] words = {"package", "import", "try", "catch", "finally", "synchronized", "assert", "volatile",
            "double", "float", "var", "protected", "native", "transient"};
        for (String word : words) {
            checks.same("no " + word, Pattern.compile("\\b" + word + "\\b").matcher(code).find(), false);
        }
        for (String sign : new String[] {"->", "::", "@", "...", "static {"}) {
            checks.same("no " + sign, code.contains(sign), false);
        }
        checks.same("texts within 0 .. 255", code.chars().allMatch(shown -> shown < 256), true);
    }

    /** Rule 6, and the exceptions that the document names. */
    private static void thrownClasses(String code) {
        checks.same("thrown", found(code, "throw new (\\w+)\\(\"[^\"]*\"\\);").toString(),
                "[ArrayIndexOutOfBoundsException, IllegalArgumentException]");
        int thrown = code.split("\\bthrow\\b").length - 1;
        checks.same("each with a written text", code.split("throw new \\w+\\(\"[^\"]*\"\\);").length - 1, thrown);
    }

    /** Rule 4: of the library only functions over int. */
    private static void libraryCalls(String code) {
        Set<String> calls = found(code, "\\b((?:Math|Integer|Long|System|Arrays)\\.\\w+)");
        checks.same("library", calls.toString(), "[Integer.bitCount, Math.max, Math.min]");
    }

    /** Rules 2 and 11. */
    private static void classesAreFew(String code) {
        int classes = code.split("\\bclass\\b").length - 1;
        checks.same("classes: " + classes, classes <= CLASSES_MOST, true);
        checks.same("those inside are static", code.split("private static final class \\w+ \\{").length, classes);
    }

    /** Rule 11: from the line that opens a method to the one that closes it at the same depth. */
    private static void methodsAreShort(String code) {
        Matcher opened = Pattern.compile("\n( +)(?:public|private)[^;={]*\\)[^;={]*\\{\n").matcher(code);
        int methods = 0;
        while (opened.find()) {
            int closed = code.indexOf("\n" + opened.group(1) + "}\n", opened.end() - 1);
            int lines = code.substring(opened.start(), closed).split("\n").length;
            checks.same(opened.group().trim() + " has " + lines + " lines", lines <= METHOD_LINES_MOST, true);
            methods++;
        }
        checks.same("methods were found", methods > 24, true);
    }
}
