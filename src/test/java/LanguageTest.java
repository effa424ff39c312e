import java.io.IOException;
import java.nio.file.Files;
import java.nio.file.Path;
import java.util.List;
import java.util.regex.Pattern;

/** What can be seen of LANGUAGE.md's rules in the program's text alone (rules 1 to 6, 10, 11 and 13). */
public final class LanguageTest {
    private static final String[] RULED_OUT = {"->", "::", "\\bsynchronized\\b", "\\bassert\\b", "\\bfinally\\b",
        "\\btry\\b", "\\bcatch\\b", "\\bpackage\\b", "\\bprotected\\b", "\\w+Exact\\b", "\\bhashCode\\b", "\\btoString\\b",
        "\\bstatic \\{", "\\bSystem\\.(?!arraycopy)", "\\bMath\\.(?!min|max|floorMod)", "\\bdouble\\b", "\\bfloat\\b",
        "\\bthrow new (?!NoSuchElementException\\(\")", "\\bgetMessage\\b", "\\bThread\\b", "\\bRandom\\b", "\\(\\w+\\[\\]\\)"};
    private static final int MOST_METHOD_LINES = 60;

    public static void main(String[] args) throws IOException {
        List<String> lines = Files.readAllLines(Path.of("src/main/java/NounFast.java"));
        int imports = 0;
        int opened = 0;
        for (int i = 0; i < lines.size(); i++) {
            String code = codeOf(lines.get(i));
            nothingRuledOut(code, i + 1);
            if (code.startsWith("import ")) {
                imports++;
                Check.same("the import", "import java.util.NoSuchElementException;", code.strip());
            }
            if (isHead(code)) {
                opened = i;
            } else if (code.strip().equals("}") && indent(code) == indent(lines.get(opened))) {
                Check.due("lines of the method at " + (opened + 1), true, i - opened < MOST_METHOD_LINES);
            }
            Check.due("signs of line " + (i + 1), true, lines.get(i).length() <= 120);
        }
        Check.due("imports", 1, imports);
        Check.finish();
    }

    /** A line without its comment and without what stands in texts. */
    private static String codeOf(String line) {
        String bare = line.replaceAll("\"[^\"]*\"", "\"\"");
        if (bare.strip().startsWith("*") || bare.strip().startsWith("/*")) {
            return "";
        }
        int comment = bare.indexOf("//");
        return comment < 0 ? bare : bare.substring(0, comment);
    }

    private static void nothingRuledOut(String code, int line) {
        for (String pattern : RULED_OUT) {
            Check.due("line " + line + " has " + pattern, false, Pattern.compile(pattern).matcher(code).find());
        }
        // A sign beyond 127 is put by its number.
        Check.due("line " + line + " has plain signs", true, code.chars().allMatch(sign -> sign < 128));
    }

    /** Whether a method begins on this line: one that ends its head. */
    private static boolean isHead(String code) {
        return code.matches("^ +\\w.*\\) (throws \\w+ )?\\{ *$") && !code.matches("^ +(if|for|while|switch) .*");
    }

    private static int indent(String line) {
        return line.length() - line.stripLeading().length();
    }
}
