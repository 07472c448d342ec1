import java.io.IOException;
import java.nio.file.Files;
import java.nio.file.Path;
import java.util.regex.Matcher;
import java.util.regex.Pattern;

/** What of ../shared/LANGUAGE.md can be seen from the program's text. */
public final class LanguageTest {
    private static final Check CHECK = new Check("LanguageTest");
    private static final String PROGRAM = "src/main/java/LayeredCharters.java";
    private static final String[] RULED_OUT = {
        "\\bpackage\\b", "\\bimport\\b", "\\b(throw|throws|try|catch|finally|synchronized|assert)\\b", "->", "::",
        "\\b(instanceof|double|float|volatile|transient|native|strictfp)\\b", "\\b(equals|hashCode|toString)\\b",
        "\\b(System|Runtime|Thread|Object|Random|Exception|Error)\\b(?!\\.arraycopy)", "\\w+Exact\\b", "\"", "@",
        "\\bstatic\\s*\\{", "\\bstatic (?!final )(int|long|boolean|char)(\\[\\])? \\w+ *[=;]", "[/%]"};

    public static void main(String[] args) throws IOException {
        String text = Files.readString(Path.of(PROGRAM));
        for (int i = 0; i < text.length(); i++) {
            if (text.charAt(i) > 126) CHECK.is("a sign above 126 at " + i, 1, 0);
        }
        String code = text.replaceAll("(?s)/\\*.*?\\*/", "").replaceAll("//[^\n]*", "").replaceAll("'.'", "' '");
        for (String pattern : RULED_OUT) {
            Matcher found = Pattern.compile(pattern).matcher(code);
            CHECK.isText(pattern, found.find() ? found.group() : "", "");
        }
        methods(code);
        CHECK.end();
    }

    private static void methods(String code) {
        int start = 0;
        String name = "";
        String[] lines = code.split("\n");
        for (int i = 0; i < lines.length; i++) {
            String line = lines[i];
            if (line.matches(" {4,8}\\S.*\\) \\{")) {
                start = i;
                name = line.strip();
                CHECK.is("parameters of " + name, name.split(",").length <= 7 ? 1 : 0, 1);
            }
            if (line.matches(" {4,8}\\}")) CHECK.is("lines of " + name, i - start <= 60 || !name.endsWith("{") ? 1 : 0, 1);
            CHECK.is("length of the line " + (i + 1), line.length() <= 120 ? 1 : 0, 1);
        }
    }
}
