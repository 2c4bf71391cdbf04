import java.io.IOException;
import java.nio.file.Files;
import java.nio.file.Path;
import java.util.ArrayList;
import java.util.BitSet;
import java.util.List;
import java.util.regex.Matcher;
import java.util.regex.Pattern;
import java.util.stream.Stream;

/**
 * Holds the tests against the document: their remarks quote it word by word, and each sentence from "What it is"
 * to the last promise is quoted by some test. It says nothing where the document is not at hand.
 */
final class SentencesTest {
    private static final Path DOCUMENT = Path.of("../shared/DOC.md");
    private static final Path TESTS = Path.of("src/test/java");
    private static final Pattern REMARK = Pattern.compile("/\\*\\*.*?\\*/", Pattern.DOTALL);
    private static final Pattern QUOTE = Pattern.compile("\"([^\"]+)\"");
    private static final Pattern UNQUOTED = Pattern.compile("[A-Za-z0-9][^|]*");

    public static void main(String[] args) throws IOException {
        if (!Files.exists(DOCUMENT)) {
            System.out.println("no document to hold the tests against");
            return;
        }
        Checks checks = new Checks();
        String document = Files.readString(DOCUMENT);
        List<String> quotes = quotes();
        String whole = inOneLine(document);
        for (String quote : quotes) {
            checks.due("in the document: " + quote, true, whole.contains(quote));
        }
        Matcher left = UNQUOTED.matcher(unquoted(inOneLine(promised(document)), quotes));
        while (left.find()) {
            checks.dueText("a sentence without a test", "none", left.group());
        }
        checks.end();
    }

    private static List<String> quotes() throws IOException {
        List<String> quotes = new ArrayList<>();
        try (Stream<Path> files = Files.list(TESTS)) {
            for (Path file : files.filter(SentencesTest::hasQuotes).sorted().toList()) {
                Matcher remark = REMARK.matcher(Files.readString(file));
                while (remark.find()) {
                    addQuotes(quotes, remark.group());
                }
            }
        }
        return quotes;
    }

    private static boolean hasQuotes(Path file) {
        String name = file.getFileName().toString();
        return name.endsWith("Test.java") && !name.equals("SentencesTest.java");
    }

    private static void addQuotes(List<String> quotes, String remark) {
        Matcher quote = QUOTE.matcher(inOneLine(remark.replaceAll("\\n\\s*\\*", " ")));
        while (quote.find()) {
            quotes.add(quote.group(1));
        }
    }

    /** All up to the last promise, without headings, the face (see FaceTest) and the forms of the methods. */
    private static String promised(String document) {
        String told = document.substring(document.indexOf("## What it is"), document.indexOf("## Not promised"));
        String sentences = told.replaceAll("(?s)```.*?```", "");
        return sentences.replaceAll("(?m)^## .*$", "").replaceAll("(?m)^`[^`]*`:", "");
    }

    /** The text with | for each letter that some quote has. */
    private static String unquoted(String text, List<String> quotes) {
        BitSet quoted = new BitSet();
        for (String quote : quotes) {
            for (int at = text.indexOf(quote); at >= 0; at = text.indexOf(quote, at + 1)) {
                quoted.set(at, at + quote.length());
            }
        }
        StringBuilder left = new StringBuilder(text);
        for (int at = quoted.nextSetBit(0); at >= 0; at = quoted.nextSetBit(at + 1)) {
            left.setCharAt(at, '|');
        }
        return left.toString();
    }

    private static String inOneLine(String text) {
        return text.replaceAll("\\s+", " ");
    }
}
