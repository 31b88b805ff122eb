import java.io.IOException;
import java.nio.file.Files;
import java.nio.file.Path;
import java.util.Arrays;
import java.util.regex.Matcher;
import java.util.regex.Pattern;

/** The document from its first line to its last: each of its words stands in a sentence that some test quotes. */
public final class DocumentTest {
    /** What asks nothing of the class. */
    private static final String[] FREE = {"Words in capitals are told where they come first."};
    private static final String NOT_PROMISED = "## Not promised";
    private static final int PROMISES = 26;
    private static final Pattern QUOTE = Pattern.compile("\\.says\\(((?:\\s*\"(?:[^\"\\\\]|\\\\.)*\"\\s*\\+?)+)\\)");
    private static final Pattern PART = Pattern.compile("\"((?:[^\"\\\\]|\\\\.)*)\"");

    private static Check check;

    public static void main(String[] args) throws IOException {
        check = new Check("DocumentTest");
        everyWordIsQuoted();
        everyPromiseHasATest();
        check.end();
    }

    private static void everyWordIsQuoted() throws IOException {
        String document = Texts.ofDocument();
        int end = document.indexOf(NOT_PROMISED);
        check.holds("it says at its end what is free", end > 0);
        String text = Texts.plain(withoutHeads(end > 0 ? document.substring(0, end) : document));
        boolean[] quoted = new boolean[text.length()];
        for (String sentence : FREE) {
            mark(quoted, text, sentence);
        }
        for (Path test : Texts.tests()) {
            markQuotesOf(Files.readString(test), quoted, text);
        }
        for (int begin = 0; begin < text.length(); begin++) {
            if (!quoted[begin]) {
                int next = begin;
                while (next < text.length() && !quoted[next]) {
                    next++;
                }
                String words = text.substring(begin, next);
                check.holds("a test looks at: " + words.trim(), !words.matches(".*\\w.*"));
                begin = next;
            }
        }
    }

    /** Without the lines that only tell one part from the next. */
    private static String withoutHeads(String document) {
        return document.replaceAll("(?m)^#.*$", "").replaceAll("(?m)^```\\w*$", "").replaceAll("(?m)^=+ \\d ", "");
    }

    private static void markQuotesOf(String test, boolean[] quoted, String text) {
        Matcher quote = QUOTE.matcher(test);
        while (quote.find()) {
            StringBuilder words = new StringBuilder();
            Matcher part = PART.matcher(quote.group(1));
            while (part.find()) {
                words.append(part.group(1));
            }
            mark(quoted, text, Texts.plain(words.toString()));
        }
    }

    private static void mark(boolean[] quoted, String text, String words) {
        for (int at = text.indexOf(words); at >= 0; at = text.indexOf(words, at + 1)) {
            Arrays.fill(quoted, at, at + words.length(), true);
        }
    }

    /** PromisesTest has a test of that number, which quotes the promise whole. */
    private static void everyPromiseHasATest() throws IOException {
        String tests = Files.readString(Path.of("src/test/java/PromisesTest.java"));
        Matcher promise = Pattern.compile("(?m)^## Promise (\\d+): .*\n\n(.*)$").matcher(Texts.ofDocument());
        int promises = 0;
        while (promise.find()) {
            promises++;
            check.due("promises are numbered as they come", Integer.parseInt(promise.group(1)), promises);
            boolean[] quoted = new boolean[promise.group(2).length()];
            Matcher test = Pattern.compile("(?s)private static void promise" + promises + "[A-Z].*?\n    }\n").matcher(tests);
            while (test.find()) {
                markQuotesOf(test.group(), quoted, promise.group(2));
            }
            check.holds("a test of promise " + promises + " quotes it whole", isAll(quoted));
        }
        check.due("promises", promises, PROMISES);
    }

    private static boolean isAll(boolean[] quoted) {
        for (boolean one : quoted) {
            if (!one) {
                return false;
            }
        }
        return quoted.length > 0;
    }
}
