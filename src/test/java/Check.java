import java.io.IOException;

/** Counts what is due and what is not; shows the sentence of the document that a wrong answer breaks. */
final class Check {
    private static final int MOST_SHOWN = 40;

    private final String test;
    private final String document;
    private String sentence = "";
    private int answers = 0;
    private int wrong = 0;

    Check(String test) throws IOException {
        this.test = test;
        document = Texts.plain(Texts.ofDocument());
    }

    /** The sentence that the answers from here on belong to; a sentence that the document has no more is wrong too. */
    String says(String words) {
        sentence = words;
        holds("the document says so", document.contains(Texts.plain(words)));
        return words;
    }

    void due(String call, long got, long want) {
        answers++;
        if (got != want) {
            tell(call + " answered " + got + ", due is " + want);
        }
    }

    void holds(String what, boolean holds) {
        answers++;
        if (!holds) {
            tell("does not hold: " + what);
        }
    }

    private void tell(String text) {
        wrong++;
        if (wrong <= MOST_SHOWN) {
            System.out.println(sentence.isEmpty() ? text : "\"" + sentence + "\": " + text);
        }
    }

    void end() {
        System.out.println(test + ": " + answers + " answers, " + wrong + " not as due");
        if (wrong != 0) {
            System.exit(1);
        }
    }
}
