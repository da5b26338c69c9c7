import java.io.IOException;
import java.nio.file.Files;
import java.nio.file.Path;
import java.util.regex.Matcher;
import java.util.regex.Pattern;

/** What LANGUAGE.md rules out and a look at the program's words and signs can tell. */
public final class LanguageTest {
    private static final String[] RULED_OUT = {
        "\\b(throw|throws|try|catch|finally|synchronized|assert|import|package)\\b", "->", "::",
        "\\b(equals|hashCode|toString)\\s*\\(\\s*(Object\\b[^)]*)?\\)\\s*\\{", "\\bstatic\\s*\\{", "\\bObject\\b",
        "\\bSystem\\.(?!arraycopy\\b)\\w+", "\\b\\w+Exact\\b", "\\b(volatile|transient|native|Thread|Random)\\b",
        "\"\\s*\\+|\\+\\s*\""
    };
    private static final int LONGEST_METHOD = 60;
    private static final int MOST_CLASSES = 12;

    private LanguageTest() {
    }

    public static void main(String[] args) throws IOException {
        String source = Files.readString(Path.of("src/main/java/GlitchNets.java"));
        for (int i = 0; i < source.length(); i++) {
            char c = source.charAt(i);
            Due.holds("sign " + (int) c + " at " + i, c == '\n' || c >= 32 && c < 127);
        }
        String code = source.replaceAll("(?s)/\\*.*?\\*/", "").replaceAll("//[^\n]*", "");
        for (String pattern : RULED_OUT) {
            Matcher found = Pattern.compile(pattern).matcher(code);
            while (found.find()) {
                Due.holds("'" + found.group() + "' is ruled out", false);
            }
        }
        int classes = 0;
        Matcher found = Pattern.compile("\\b(class|enum|record|interface)\\b").matcher(code);
        while (found.find()) {
            classes++;
        }
        Due.holds(classes + " classes", classes <= MOST_CLASSES);
        checkMethods(code.split("\n", -1));
        Due.end("LanguageTest");
    }

    /** A method begins where a line with parameters opens a block as a class's member, and ends at its like brace. */
    private static void checkMethods(String[] lines) {
        Pattern opens = Pattern.compile("^( {4}| {8})(?! )[^=;]*\\(([^()]*)\\) \\{$");
        for (int i = 0; i < lines.length; i++) {
            Matcher begin = opens.matcher(lines[i]);
            if (!begin.matches() || lines[i].trim().matches("(if|for|while|switch|do|\\}).*")) {
                continue;
            }
            String close = begin.group(1) + "}";
            int end = i + 1;
            while (end < lines.length && !lines[end].equals(close)) {
                end++;
            }
            Due.holds(lines[i].trim() + " has " + (end - i + 1) + " lines", end - i < LONGEST_METHOD);
            Due.holds(lines[i].trim() + " takes at most seven", begin.group(2).split(",").length <= 7);
        }
    }
}
