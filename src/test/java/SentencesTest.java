import java.io.IOException;
import java.nio.file.Files;
import java.nio.file.Path;
import java.util.ArrayList;
import java.util.List;
import java.util.regex.Matcher;
import java.util.regex.Pattern;

/**
 * Each sentence of the document has a test: what a test @Says stands in the document to the letter, and together the
 * tests of a promise say all of it, and all tests all of the terms. It is run from the project's folder.
 */
final class SentencesTest {
    private static final int PROMISES = 32;
    private static final Pattern SAYS = Pattern.compile("(?s)@Says\\((.*?)\\)\\s+static");
    private static final Pattern TEXT = Pattern.compile("\"([^\"]*)\"");

    public static void main(String[] args) throws IOException {
        Path file = Path.of("../shared/DOC.md");
        if (!Files.exists(file)) {
            System.out.println("no " + file + ": nothing to compare with");
            return;
        }
        String document = plain(Files.readString(file));
        String terms = between(document, "## Terms", "## Promise 1:");
        boolean[] saidOfTerms = new boolean[terms.length()];
        for (int number = 1; number <= PROMISES; number++) {
            String end = number < PROMISES ? "## Promise " + (number + 1) + ":" : "## Not promised";
            String promise = between(document, "## Promise " + number + ":", end);
            boolean[] said = new boolean[promise.length()];
            for (String quote : quotes(number)) {
                Due.due("promise " + number + " says what the document says: " + quote, document.contains(quote));
                mark(promise, said, quote);
                mark(terms, saidOfTerms, quote);
            }
            allSaid("promise " + number, promise.replaceFirst("^[^`]*`[^`]*`:", ""), promise, said);
        }
        allSaid("the terms", terms, terms, saidOfTerms);
        Due.end();
    }

    /** The document on one line, without what divides its parts. */
    private static String plain(String document) {
        return document.replaceAll("(?m)^```.*$", "").replaceAll("==== \\d", "")
            .replaceAll("Ahead of the calls .* the interface says:", "").replaceAll("---- [123] .*", "")
            .replaceAll("\\s+", " ");
    }

    private static String between(String document, String start, String end) {
        int from = document.indexOf(start);
        int to = document.indexOf(end);
        Due.due("the document has " + start + " .. " + end, from >= 0 && to > from);
        return from >= 0 && to > from ? document.substring(from + start.length(), to) : "";
    }

    private static List<String> quotes(int number) throws IOException {
        String source = Files.readString(Path.of(String.format("src/test/java/Promise%02dTest.java", number)));
        List<String> quotes = new ArrayList<>();
        Matcher says = SAYS.matcher(source);
        while (says.find()) {
            Matcher text = TEXT.matcher(says.group(1));
            while (text.find()) {
                quotes.add(text.group(1));
            }
        }
        Due.due("promise " + number + " has tests", !quotes.isEmpty());
        return quotes;
    }

    private static void mark(String text, boolean[] said, String quote) {
        for (int at = text.indexOf(quote); at >= 0; at = text.indexOf(quote, at + 1)) {
            for (int i = at; i < at + quote.length(); i++) {
                said[i] = true;
            }
        }
    }

    /** Whether all letters and digits of what a text ends with are said. */
    private static void allSaid(String where, String body, String text, boolean[] said) {
        StringBuilder left = new StringBuilder();
        for (int i = text.length() - body.length(); i < text.length(); i++) {
            char sign = text.charAt(i);
            if (!said[i] && Character.isLetterOrDigit(sign)) {
                left.append(sign);
            } else if (left.length() > 0 && left.charAt(left.length() - 1) != ' ') {
                left.append(' ');
            }
        }
        Due.due("of " + where + " is said by no test: " + left, left.toString().isBlank());
    }
}
