import java.io.IOException;
import java.nio.file.Files;
import java.nio.file.Path;

/** Counts what is due and what is not; shows the sentence of the document that a wrong answer breaks. */
final class Check {
    private static final int MOST_SHOWN = 40;

    private final String test;
    private final String document;
    private String sentence = "";
    private int answers = 0;
    private int wrong = 0;

    /** The second argument of a test is the path of the document, if it is at hand. */
    Check(String test, String[] args) throws IOException {
        this.test = test;
        boolean isThere = args.length > 1 && Files.exists(Path.of(args[1]));
        document = isThere ? plain(Files.readString(Path.of(args[1]))) : null;
    }

    private static String plain(String text) {
        return text.replaceAll("\\s+", " ");
    }

    /** The sentence that the answers from here on belong to; a sentence that the document has no more is wrong too. */
    void says(String words) {
        sentence = words;
        if (document != null) {
            due("the document says so", document.contains(plain(words)) ? 1 : 0, 1);
        }
    }

    void due(String call, long got, long want) {
        answers++;
        if (got != want) {
            wrong++;
            if (wrong <= MOST_SHOWN) {
                System.out.println("\"" + sentence + "\": " + call + " answered " + got + ", due is " + want);
            }
        }
    }

    void holds(String what, boolean holds) {
        due(what, holds ? 1 : 0, 1);
    }

    void end() {
        System.out.println(test + ": " + answers + " answers, " + wrong + " not as due");
        if (wrong != 0) {
            System.exit(1);
        }
    }
}
