import java.nio.file.DirectoryStream;
import java.nio.file.Files;
import java.nio.file.Path;
import java.util.ArrayList;
import java.util.List;
import java.util.regex.Matcher;
import java.util.regex.Pattern;

/**
 * The document against the tests and the source: each word of 'Terms' and of promises 1 to 34 stands in a sentence that
 * an edges test quotes, so that none is left out when the document or the tests change; each call stands in the
 * source under the heading that the document gives it.
 */
public final class DocumentTest {
    private static final Path DOCUMENT = Path.of("../shared/DOC.md");
    private static final Path SOURCE = Path.of("src/main/java/ShorthandCourt.java");
    private static final Path TESTS = Path.of("src/test/java");
    private static final int PROMISES = 34;

    private static final Pattern LITERAL = Pattern.compile("\"((?:[^\"\\\\]|\\\\.)*)\"");
    private static final Pattern QUOTE = Pattern.compile("\\.sentence\\(((?:[^()\"]|" + LITERAL.pattern() + ")*)\\)");
    private static final Pattern PROMISE = Pattern.compile("## Promise (\\d+): [^`]*`[^`]*`: (.*?)(?= ## |$)");
    private static final Pattern TERMS = Pattern.compile("## Terms (.*?) Ahead of the calls");
    private static final Pattern HEADING = Pattern.compile(
        "Ahead of the calls ([^.]*) the interface says: (---- [^.]*)\\.");
    private static final Pattern PUBLIC = Pattern.compile("(?m)^    public (?:int|long) (\\w+)\\(|^    // (---- .*)$");
    private static final Due d = new Due("DocumentTest");

    public static void main(String[] args) throws Exception {
        if (!Files.isReadable(DOCUMENT)) {
            System.out.println("DocumentTest: the document is not at hand, nothing is compared");
            return;
        }
        String document = Files.readString(DOCUMENT).replaceAll("```\\w*|==== \\d", "").replaceAll("\\s+", " ");
        List<String> quotes = quotes();
        Matcher terms = TERMS.matcher(document);
        d.due("'Terms' are found", terms.find() ? 1 : 0, 1);
        quoted("Terms", terms.group(1), quotes);
        int promises = 0;
        Matcher promise = PROMISE.matcher(document);
        while (promise.find()) {
            promises++;
            d.due("the number of a promise", Integer.parseInt(promise.group(1)), promises);
            quoted("promise " + promises, promise.group(2), quotes);
        }
        d.due("promises", promises, PROMISES);
        d.same("the headings", headingsOfSource(), headingsOf(document));
        d.end();
    }

    private static List<String> quotes() throws Exception {
        List<String> quotes = new ArrayList<>();
        try (DirectoryStream<Path> tests = Files.newDirectoryStream(TESTS, "Edges*Test.java")) {
            for (Path test : tests) {
                Matcher quote = QUOTE.matcher(Files.readString(test));
                while (quote.find()) {
                    StringBuilder words = new StringBuilder();
                    Matcher part = LITERAL.matcher(quote.group(1));
                    while (part.find()) {
                        words.append(part.group(1));
                    }
                    quotes.add(words.toString());
                }
            }
        }
        return quotes;
    }

    private static void quoted(String where, String text, List<String> quotes) {
        StringBuilder left = new StringBuilder(text);
        for (String quote : quotes) {
            for (int at = text.indexOf(quote); at >= 0 && !quote.isEmpty(); at = text.indexOf(quote, at + 1)) {
                left.replace(at, at + quote.length(), " ".repeat(quote.length()));
            }
        }
        Matcher word = Pattern.compile("\\w(.*\\w)?").matcher(left);
        d.same("what no test quotes of " + where, word.find() ? word.group().replaceAll(" +", " ") : "", "");
    }

    private static String headingsOf(String document) {
        StringBuilder all = new StringBuilder();
        Matcher heading = HEADING.matcher(document);
        while (heading.find()) {
            all.append(heading.group(2)).append(": ").append(heading.group(1).replaceAll("[`,]", "")).append('\n');
        }
        return all.toString();
    }

    /** The headings of the public calls, in the same form; those of what is private have no such calls. */
    private static String headingsOfSource() throws Exception {
        StringBuilder all = new StringBuilder();
        String heading = "";
        StringBuilder names = new StringBuilder();
        Matcher found = PUBLIC.matcher(Files.readString(SOURCE));
        while (found.find()) {
            if (found.group(1) != null) {
                names.append(' ').append(found.group(1));
                continue;
            }
            if (names.length() > 0) {
                all.append(heading).append(':').append(names).append('\n');
            }
            heading = found.group(2);
            names.setLength(0);
        }
        return all.toString();
    }
}
