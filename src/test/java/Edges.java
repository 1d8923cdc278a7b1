import java.util.ArrayList;
import java.util.HashMap;
import java.util.List;
import java.util.Map;
import java.util.function.Consumer;

/**
 * Tests of single sentences of the document. A test quotes its sentence, or the part of it that it is about, and
 * the quote must stand in the section that is named; in the end each sentence must have been quoted.
 */
final class Edges {
    /** The face is looked at by FaceTest. */
    private static final String ONLY_LEADS_ON = "The constructor and the methods follow, a promise each";

    private final Document document;
    private final Map<String, List<String>> quotes = new HashMap<>();
    private final Check all;

    Edges(Document document, Check all) {
        this.document = document;
        this.all = all;
    }

    void sentence(String section, String quote, Consumer<Check> test) {
        Check check = new Check(section + ", '" + quote + "'");
        try {
            test.accept(check);
        } catch (RuntimeException e) {
            check.note(false, "the test broke off: " + e);
        }
        all.add(check);
        all.note(check.answers() > 0, section + ": nothing is tested of '" + quote + "'");
        all.note(document.sentences(section).stream().anyMatch(sentence -> sentence.contains(quote)),
                section + " does not say '" + quote + "'");
        quotes.computeIfAbsent(section, name -> new ArrayList<>()).add(quote);
    }

    void whole(String quote, Consumer<Check> test) {
        sentence("What it is", quote, test);
    }

    void description(String quote, Consumer<Check> test) {
        sentence("Description", quote, test);
    }

    void promise(int number, String quote, Consumer<Check> test) {
        sentence("Promise " + number, quote, test);
    }

    void eachSentenceHasATest() {
        List<String> sections = document.testedSections();
        all.same("sections with tests", sections.size(), 34);
        for (String section : sections) {
            List<String> quoted = quotes.getOrDefault(section, List.of());
            for (String sentence : document.sentences(section)) {
                boolean hasATest = quoted.stream().anyMatch(sentence::contains);
                all.note(hasATest || sentence.startsWith(ONLY_LEADS_ON), section + " has no test of: " + sentence);
            }
        }
    }
}
