import java.io.IOException;
import java.nio.file.DirectoryStream;
import java.nio.file.Files;
import java.nio.file.Path;
import java.util.regex.Matcher;
import java.util.regex.Pattern;

/** Each sentence of the document, from its first line to "Not promised", is named by some test. */
public final class SentencesTest {
    private static final Due DUE = new Due("sentences");
    private static final String TEXT = "\"(?:[^\"\\\\]|\\\\.)*\"";
    private static final Pattern QUOTE = Pattern.compile("\\.sentence\\((" + TEXT + "(?:\\s*\\+\\s*" + TEXT + ")*)\\)");
    // Headings, words that say nothing by themselves, and what is free.
    private static final Pattern NO_SENTENCE = Pattern.compile(
        "(# ClassHouse|## (What it is|The public face|Terms)|```(java|text)?|========|\\d (TEXTS|CHECKING|RUNNING)\\.|## Promise \\d+: [\\w ]+`[^`]*`:"
        + "|what later calls answer is free\\.|WORDS:|of:|[,;]|\\s)*");

    public static void main(String[] args) throws IOException {
        String document = Due.document();
        int to = document.indexOf("## Not promised");
        if (to > 0) {
            look(document.substring(0, to));
        } else {
            DUE.is("the document is not there or has another form: nothing to look at", 1, 1);
        }
        DUE.close();
    }

    private static void look(String document) throws IOException {
        boolean[] named = new boolean[document.length()];
        try (DirectoryStream<Path> files = Files.newDirectoryStream(Path.of("src/test/java"), "*Test.java")) {
            for (Path file : files) {
                Matcher quotes = QUOTE.matcher(Files.readString(file));
                while (quotes.find()) {
                    mark(document, joined(quotes.group(1)), named);
                }
            }
        }
        int at = 0;
        while (at < document.length()) {
            int behind = at;
            while (behind < document.length() && named[behind] == named[at]) {
                behind++;
            }
            String part = document.substring(at, behind);
            DUE.is("no test names: " + part, named[at] || NO_SENTENCE.matcher(part).matches() ? 1 : 0, 1);
            at = behind;
        }
    }

    /** The text that string literals with + between make. */
    private static String joined(String literals) {
        StringBuilder text = new StringBuilder();
        Matcher literal = Pattern.compile(TEXT).matcher(literals);
        while (literal.find()) {
            text.append(literal.group(), 1, literal.group().length() - 1);
        }
        return text.toString();
    }

    private static void mark(String document, String quote, boolean[] named) {
        for (int at = document.indexOf(quote); at >= 0; at = document.indexOf(quote, at + 1)) {
            for (int i = at; i < at + quote.length(); i++) {
                named[i] = true;
            }
        }
    }
}
