import java.io.IOException;
import java.nio.file.Files;
import java.nio.file.Path;
import java.util.BitSet;
import java.util.Map;
import java.util.Set;
import java.util.TreeMap;

/**
 * Holds the sentences that the tests tell against the document: each one stands there, and each of the
 * document's has a test, but for those that no answer can show.
 */
public final class DocumentTest {
    private static final Path DOCUMENT = Path.of("../shared/DOC.md");
    private static final Check CHECK = new Check("DocumentTest");

    private static final String[] NOTHING_UNSEEN = {};
    /** What no call's answer can show. */
    private static final Map<String, String[]> UNSEEN = Map.of(
            "What it is", new String[] {
                "The objects of a script language: properties with attributes and accessors, prototypes, arrays whose "
                    + "length is a property like others and yet follows their indices, objects that are sealed and frozen; "
                    + "all of it in an own memory that is collected at any moment.",
                "what later calls answer is free.",
            },
            "Terms", new String[] {"all that follows speaks of objects by roots."});
    /** FaceTest has the first; the other one takes promises back. */
    private static final Set<String> NO_PROMISES = Set.of("The public face", "Not promised");

    public static void main(String[] args) throws IOException {
        BoundsTest.all();
        TermsTest.all();
        DefineTest.all();
        Map<String, String> sections = sections(Files.readString(DOCUMENT));
        Check.QUOTES.forEach((where, quotes) -> CHECK.due("there is a section " + where, sections.containsKey(where), true));
        CHECK.due("sections without promises", sections.keySet().removeAll(NO_PROMISES), true);
        CHECK.due("sections with promises", sections.size(), 23);
        sections.forEach((where, text) -> dueQuotes(where, text, Check.QUOTES.getOrDefault(where, Set.of())));
        CHECK.end();
    }

    /** The document's texts by the titles' first parts, without signatures and marks of layout. */
    private static Map<String, String> sections(String document) {
        Map<String, String> sections = new TreeMap<>();
        for (String section : document.split("(?m)^## ")) {
            String[] parts = section.split("\n", 2);
            String title = parts[0].replaceFirst(":.*", "");
            if (parts.length == 2 && !parts[0].startsWith("#")) {
                sections.put(title, oneLine(parts[1]));
            }
        }
        return sections;
    }

    private static String oneLine(String text) {
        return text.replaceAll("```\\w*\n", "").replaceAll("`[^`]*`: ", "").replaceAll("\\s+", " ").trim();
    }

    private static void dueQuotes(String where, String text, Set<String> quotes) {
        BitSet told = new BitSet();
        for (String quote : quotes) {
            CHECK.due(where + " says \"" + quote + "\"", mark(told, text, quote), true);
        }
        for (String unseen : UNSEEN.getOrDefault(where, NOTHING_UNSEEN)) {
            CHECK.due(where + " says \"" + unseen + "\"", mark(told, text, unseen), true);
        }
        CHECK.due(where + ": what no test tells", rest(told, text), "");
    }

    private static boolean mark(BitSet told, String text, String quote) {
        boolean found = false;
        for (int at = text.indexOf(quote); at >= 0; at = text.indexOf(quote, at + 1)) {
            told.set(at, at + quote.length());
            found = true;
        }
        return found;
    }

    private static String rest(BitSet told, String text) {
        StringBuilder rest = new StringBuilder();
        for (int at = told.nextClearBit(0); at < text.length(); at = told.nextClearBit(at)) {
            int end = told.nextSetBit(at) < 0 ? text.length() : told.nextSetBit(at);
            String part = text.substring(at, end).trim();
            if (part.matches(".*[A-Za-z0-9].*")) {
                rest.append('[').append(part).append("] ");
            }
            at = end;
        }
        return rest.toString();
    }
}
