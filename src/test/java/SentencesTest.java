import java.io.IOException;
import java.nio.file.Files;
import java.nio.file.Path;
import java.util.ArrayList;
import java.util.Arrays;
import java.util.List;
import java.util.Map;
import java.util.TreeMap;

/**
 * Each sentence of the document has a test of its own: this looks at all of them, and that each is quoted as it
 * stands there, and that no word of "Terms" and the promises is left without one. Run it in the project's folder.
 */
public final class SentencesTest {
    private static final Check check = new Check();

    public static void main(String[] args) throws IOException {
        Sentences all = new Sentences(true);
        all.lookAtAll();
        for (String broken : all.broken()) {
            check.tell("BROKEN " + broken);
        }
        Map<String, String> sections = sections(Files.readAllLines(Path.of("../shared/DOC.md")));
        for (Map.Entry<String, List<String>> quotes : all.quotes().entrySet()) {
            quotesStand(quotes.getKey(), sections.get(quotes.getKey()), quotes.getValue());
        }
        for (String section : sections.keySet()) {
            boolean isPromised = section.equals("Terms") || section.startsWith("Promise ");
            check.due(section + " is quoted", true, all.quotes().containsKey(section) || !isPromised);
        }
        System.out.println(all.looked() + " answers looked at for the sentences");
        check.end();
    }

    /** By "Terms" or "Promise 1": the words without the line of code that a promise begins with. */
    private static Map<String, String> sections(List<String> lines) {
        Map<String, String> sections = new TreeMap<>();
        String section = "";
        for (String line : lines) {
            if (line.startsWith("## ")) {
                section = line.substring(3).replaceAll(":.*", "");
            } else {
                sections.merge(section, line.replaceFirst("^`[^`]*`: ", ""), (a, b) -> (a + " " + b).trim());
            }
        }
        return sections;
    }

    private static void quotesStand(String section, String text, List<String> quotes) {
        if (text == null) {
            check.tell("the document has no section " + section);
            return;
        }
        boolean[] quoted = new boolean[text.length()];
        List<String> seen = new ArrayList<>();
        for (String quote : quotes) {
            check.due(section + " says '" + quote + "'", true, text.contains(quote));
            check.due(section + " is asked twice for '" + quote + "'", false, seen.contains(quote));
            seen.add(quote);
            for (int at = text.indexOf(quote); at >= 0; at = text.indexOf(quote, at + 1)) {
                Arrays.fill(quoted, at, at + quote.length(), true);
            }
        }
        // "What it is" has more to tell than one test can ask.
        if (!section.equals("What it is")) {
            check.due(section + ", without a test", "", unquoted(text, quoted));
        }
    }

    private static String unquoted(String text, boolean[] quoted) {
        StringBuilder left = new StringBuilder();
        for (int k = 0; k < text.length(); k++) {
            if (!quoted[k]) {
                left.append(text.charAt(k));
            }
        }
        return left.toString().trim();
    }
}
