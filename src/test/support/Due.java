import java.io.IOException;
import java.io.UncheckedIOException;
import java.nio.charset.StandardCharsets;
import java.nio.file.Files;
import java.nio.file.Path;

/**
 * What the tests of the document's edges share: sentences that must stand in the document as they are quoted, and
 * below each the answers that are due by it. Run from the project's root.
 */
final class Due {
    static final int LEAST_INT = Integer.MIN_VALUE, MOST_INT = Integer.MAX_VALUE;
    static final int BAD = -1, NOT = -2, FULL = -3, STATE = -5, VOID = -2000000000;
    static final int NOTHING = -11, OTHER = -12, NO_PLACE = -13, BELOW = -14;

    private final String document;
    private final String only;
    private String sentence = "";
    private int sentences = 0;
    private int asked = 0;
    private int wrong = 0;

    /** only: a word of the sentences that are to be asked alone; empty: all. */
    private Due(String document, String only) {
        this.document = document;
        this.only = only;
    }

    static Due byDocument() {
        try {
            return new Due(Files.readString(Path.of("../shared/DOC.md"), StandardCharsets.UTF_8), System.getProperty("only", ""));
        } catch (IOException e) {
            throw new UncheckedIOException(e);
        }
    }

    /** The sentence that the answers below are due by: a quotation, so that none is made up and none goes stale. */
    void says(String quoted) {
        sentence = quoted;
        sentences++;
        if (!document.contains(quoted)) {
            wrong++;
            System.out.println("the document does not say: " + quoted);
        }
    }

    /** As says(), for what stands in one promise. */
    void promises(int promise, String quoted) {
        says(quoted);
        int from = document.indexOf("## Promise " + promise + ": ");
        int to = document.indexOf("\n## ", from + 1);
        if (from < 0 || to < 0 || !document.substring(from, to).contains(quoted)) {
            wrong++;
            System.out.println("promise " + promise + " does not say: " + quoted);
        }
    }

    void is(String call, long want, long got) {
        if (!sentence.contains(only)) {
            return;
        }
        asked++;
        if (got != want) {
            wrong++;
            System.out.println("\"" + sentence + "\": " + call + " answered " + got + ", due is " + want);
        }
    }

    void end() {
        System.out.println(sentences + " sentences, " + asked + " answers asked, " + wrong + " not as due");
        if (wrong != 0) {
            System.exit(1);
        }
    }

    static PassBill with(int... whs) {
        PassBill x = new PassBill();
        for (int wh : whs) {
            x.person(wh);
        }
        return x;
    }

    static PassBill crowd(int people, int wh) {
        PassBill x = new PassBill();
        for (int i = 0; i < people; i++) {
            x.person(wh);
        }
        return x;
    }

    static void feed(PassBill x, String text) {
        for (int i = 0; i < text.length(); i++) {
            x.feed(text.charAt(i));
        }
    }

    static int law(PassBill x, String text) {
        feed(x, text);
        return x.law();
    }

    /** A SHELF comes to hold a ROW of these elements. */
    static void fill(PassBill x, int shelf, int sort, long... elements) {
        x.row(shelf, sort, elements.length);
        for (int i = 0; i < elements.length; i++) {
            x.put(shelf, i, elements[i]);
        }
    }
}
