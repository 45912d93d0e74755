import java.io.IOException;
import java.nio.file.Files;
import java.nio.file.Path;

/** The sentence of the document that is looked at just now, and how many answers were not as it says. */
final class Sentences {
    private final String test;
    private final String[] parts;
    private String sentence = "";
    private int sentences = 0;
    private int rows = 0;
    private int rowsOfSentence = 0;
    private int wrong = 0;

    Sentences(String test, String[] args) throws IOException {
        this.test = test;
        Path root = Path.of(args.length > 0 ? args[0] : ".");
        parts = even(Files.readString(root.resolve("../shared/DOC.md"))).split("## Promise ");
    }

    private static String even(String text) {
        return text.replaceAll("\\s+", " ");
    }

    /** From here on answers are held against this sentence of a promise (0: what stands ahead of them). */
    void says(int promise, String words) {
        close();
        sentence = (promise == 0 ? "the terms" : "promise " + promise) + ": \"" + words + "\"";
        sentences++;
        rowsOfSentence = 0;
        boolean stands = promise < parts.length && parts[promise].contains(even(words))
            && (promise == 0 || parts[promise].startsWith(promise + ":"));
        if (!stands) fault("the document does not say so");
    }

    void due(String call, int got, int want) {
        rows++;
        rowsOfSentence++;
        if (got != want) fault(call + " answered " + got + ", due is " + want);
    }

    void same(String what, String got, String want) {
        rows++;
        rowsOfSentence++;
        if (!got.equals(want)) fault(what + " is\n  " + got + ", due is\n  " + want);
    }

    private void fault(String what) {
        wrong++;
        if (wrong <= 40) System.out.println(sentence + ": " + what);
    }

    private void close() {
        if (sentences > 0 && rowsOfSentence == 0) fault("nothing was asked");
    }

    void end() {
        close();
        System.out.println(test + ": " + sentences + " sentences, " + rows + " answers, " + wrong + " wrong");
        if (wrong > 0) System.exit(1);
    }
}
