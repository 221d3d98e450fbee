import java.io.IOException;
import java.nio.file.Files;
import java.nio.file.Path;
import java.util.Arrays;
import java.util.LinkedHashMap;
import java.util.Map;

/**
 * The document against the tests: what a test quotes stands in its section word for word, and each word of the terms
 * and of the promises stands in what some test quotes.
 */
public final class SentencesTest {
    private static final Due due = new Due("SentencesTest");
    private static final Path DOCUMENT = Path.of("..", "shared", "DOC.md");

    public static void main(String[] args) throws IOException {
        if (!Files.exists(DOCUMENT)) {
            System.out.println("SentencesTest: there is no " + DOCUMENT + ", so nothing is looked at");
            return;
        }
        Map<String, String> sections = sections(Files.readString(DOCUMENT));
        Map<String, boolean[]> quoted = new LinkedHashMap<>();
        sections.forEach((name, text) -> quoted.put(name, new boolean[text.length()]));
        Due listing = Due.listing();
        list(listing);
        for (Due.Quote quote : listing.quotes) {
            mark(quote, sections, quoted);
        }
        sections.forEach((name, text) -> due.holds(name + ": each word of '" + left(text, quoted.get(name)) + "' is quoted",
                left(text, quoted.get(name)).isEmpty()));
        due.is("promises", sections.keySet().stream().filter(name -> name.startsWith("Promise ")).count(), 25);
        due.end();
    }

    private static void list(Due listing) {
        TapeTest.tests(listing);
        FrameKindsTest.tests(listing);
        FramesTest.tests(listing);
        DraftTest.tests(listing);
        PutTest.tests(listing);
        HeadersTest.tests(listing);
        LeadTest.tests(listing);
        PacketNumbersTest.tests(listing);
        ParametersTest.tests(listing);
    }

    /** The sections that promise something, without the marks, signatures and headings of the interface. */
    private static Map<String, String> sections(String document) {
        Map<String, String> sections = new LinkedHashMap<>();
        for (String part : document.split("(?m)^## ")) {
            String title = part.lines().findFirst().orElse("");
            String name = title.replaceFirst(":.*", "").strip();
            if (name.equals("What it is") || name.equals("Terms") || name.startsWith("Promise ")) {
                sections.put(name, plain(part.substring(title.length())));
            }
        }
        // The class's own description promises nothing.
        sections.computeIfPresent("What it is", (name, text) -> text.replaceFirst("^.*?(?=An object is used)", ""));
        return sections;
    }

    private static String plain(String part) {
        return part.replaceAll("(?m)^```.*$", " ").replaceAll("\\s+", " ").strip()
                .replaceFirst("^`[^`]*`: ", "")
                .replaceAll("Ahead of the calls [^.]*? the interface says: ---- [a-z ]+\\.", "");
    }

    private static void mark(Due.Quote quote, Map<String, String> sections, Map<String, boolean[]> quoted) {
        String text = sections.getOrDefault(quote.section(), "");
        int at = text.indexOf(quote.sentence());
        due.holds(quote.section() + " says '" + quote.sentence() + "'", at >= 0);
        while (at >= 0) {
            Arrays.fill(quoted.get(quote.section()), at, at + quote.sentence().length(), true);
            at = text.indexOf(quote.sentence(), at + 1);
        }
    }

    /** The words that nobody quotes. */
    private static String left(String text, boolean[] quoted) {
        StringBuilder left = new StringBuilder();
        for (int k = 0; k < quoted.length; k++) {
            left.append(quoted[k] ? ' ' : text.charAt(k));
        }
        return left.toString().replaceAll("[;,.:()\\s]+", " ").strip();
    }
}
