import java.util.ArrayList;
import java.util.List;
import java.util.TreeMap;

/** A test for each sentence of the document, called by its section and its words: which of them are broken. */
final class Sentences {
    interface Test {
        void look(Check check);
    }

    private final boolean telling;
    private final TreeMap<String, List<String>> quotes = new TreeMap<>();
    private final List<String> broken = new ArrayList<>();
    private int looked;

    Sentences(boolean telling) {
        this.telling = telling;
    }

    /** All of them; the names of those that are broken. BrokenSentencesTest calls it by its name. */
    static List<String> brokenOnes() {
        Sentences all = new Sentences(false);
        all.lookAtAll();
        return all.broken;
    }

    void lookAtAll() {
        TermsSentences.all(this);
        PromiseSentences.all(this);
        LaterPromiseSentences.all(this);
    }

    void holds(String section, String quote, Test test) {
        String name = name(section, quote);
        Check check = new Check(name + " ", telling);
        try {
            test.look(check);
        } catch (RuntimeException thrown) {
            check.tell("a call that should answer threw " + thrown);
        }
        quotes.computeIfAbsent(section, none -> new ArrayList<>()).add(quote);
        looked += check.looked();
        if (check.wrong() > 0 || check.looked() == 0) {
            broken.add(name);
        }
    }

    static String name(String section, String quote) {
        return section + ": '" + quote + "'";
    }

    List<String> broken() {
        return broken;
    }

    TreeMap<String, List<String>> quotes() {
        return quotes;
    }

    int looked() {
        return looked;
    }
}
