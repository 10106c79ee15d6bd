import java.io.IOException;
import java.nio.file.Files;
import java.nio.file.Path;
import java.util.List;
import java.util.regex.Matcher;
import java.util.regex.Pattern;

/** What can be seen of LANGUAGE.md in the words of the program; run it in the project's folder. */
public final class SourceTest {
    private static final String[] RULED_OUT = {
        "->", "::", "\\btry\\b", "\\bcatch\\b", "\\bfinally\\b", "\\binstanceof\\b", "\\bsynchronized\\b",
        "\\bassert\\b", "\\bimport (?!java\\.util\\.Arrays;)", "\\bpackage\\b", "static \\{", "[^/*]/[^/*]", "%",
        "Exact\\(", "\\bequals\\b", "\\bhashCode\\b", "\\btoString\\b", "\\bObject\\b", "\\bwhile\\b",
        "\\bSystem\\.(?!arraycopy)", "\\bArrays\\.(?!fill|copyOf)", "\\bMath\\.(?!min|max|abs)", "\\bprotected\\b",
    };
    private static final String THROWN = "IllegalStateException|IllegalArgumentException|IndexOutOfBoundsException"
        + "|UnsupportedOperationException";

    private static final Check check = new Check();

    public static void main(String[] args) throws IOException {
        List<String> lines = Files.readAllLines(Path.of("src/main/java/InverterGraphs.java"));
        StringBuilder code = new StringBuilder();
        for (String line : lines) {
            code.append(line.replaceAll("^\\s*(/\\*\\*|\\*|//).*", "").replaceAll("\"[^\"]*\"", "\"\"")).append('\n');
        }
        for (String ruledOut : RULED_OUT) {
            Matcher found = Pattern.compile(ruledOut).matcher(code);
            check.due("'" + ruledOut + "' stands there", false, found.find());
        }
        Matcher thrown = Pattern.compile("throw (?!new (" + THROWN + ")\\(\"\"\\);)").matcher(code);
        check.due("another throw stands there", false, thrown.find());
        lengths(lines);
        check.end();
    }

    private static void lengths(List<String> lines) {
        int begun = 0;
        for (int k = 0; k < lines.size(); k++) {
            String line = lines.get(k);
            check.due("line " + (k + 1) + " is short", true, line.length() <= 120);
            check.due("line " + (k + 1) + " is plain", true, line.chars().allMatch(c -> c >= 32 && c < 127));
            if (line.matches("    (    )?\\S.*\\{")) {
                begun = k;
            }
            if (line.matches("        \\}")) {
                check.due("the method that ends in line " + (k + 1) + " is short", true, k - begun < 60);
            }
        }
    }
}
