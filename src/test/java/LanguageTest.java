import java.io.IOException;
import java.nio.file.Files;
import java.nio.file.Path;
import java.util.List;
import java.util.regex.Matcher;
import java.util.regex.Pattern;

/** Rules of LANGUAGE.md that can be seen in the text of the class. Run from the project's folder. */
public final class LanguageTest {
    private static final Check CHECK = new Check("LanguageTest");
    private static final Path SOURCE = Path.of("src/main/java/SquareCuts.java");
    private static final int LONGEST_METHOD = 60;
    private static final String[] FORBIDDEN = {"->", "::", "\\bassert\\b", "\\bsynchronized\\b", "\\bfinally\\b",
        "\\bcatch\\b", "\\bpackage\\b", "\\bdouble\\b", "\\bfloat\\b", "Exact\\b", "\\bSystem\\.(?!arraycopy)", "\\bThread\\b",
        "\\bRandom\\b", "\\bequals\\(", "\\bhashCode\\b", "\\btoString\\b", "\\[\\]\\[\\]\\[\\]", "\\bvar\\b",
        "\\bObject\\b", "\\bstatic \\{"};

    public static void main(String[] args) throws IOException {
        List<String> lines = Files.readAllLines(SOURCE);
        String code = withoutComments(String.join("\n", lines));
        for (String word : FORBIDDEN) {
            CHECK.due("the class has " + word, Pattern.compile(word).matcher(code).find(), false);
        }
        Matcher imports = Pattern.compile("import ([\\w.]+);").matcher(code);
        while (imports.find()) {
            CHECK.due("import " + imports.group(1),
                imports.group(1).matches("java\\.util\\.(Arrays|NoSuchElementException)"), true);
        }
        Matcher thrown = Pattern.compile("throw (.*)").matcher(code);
        while (thrown.find()) {
            CHECK.due("throw " + thrown.group(1),
                thrown.group(1).matches("new NoSuchElementException\\(\"[^\"]*\"\\);"), true);
        }
        methodLengths(lines);
        CHECK.end();
    }

    private static String withoutComments(String code) {
        return code.replaceAll("(?s)/\\*.*?\\*/", "").replaceAll("//[^\n]*", "");
    }

    /** A method begins with a line that ends in ") {" at the depth of members, and ends with its brace. */
    private static void methodLengths(List<String> lines) {
        for (int i = 0; i < lines.size(); i++) {
            Matcher head = Pattern.compile("^(    |        )(?!if|for|while|switch|else| )\\w.*\\).*\\{$").matcher(lines.get(i));
            if (head.matches()) {
                int end = i;
                while (!lines.get(end).equals(head.group(1) + "}")) {
                    end++;
                }
                CHECK.due(lines.get(i).trim() + " is short", end - i < LONGEST_METHOD, true);
            }
        }
    }
}
