import java.io.IOException;
import java.nio.file.Files;
import java.nio.file.Path;

/** Answers that are due: each call that answers otherwise is printed, and the test then fails. */
final class Due {
    private static final Path DOCUMENT = Path.of("../shared/DOC.md");

    private static int wrong = 0;
    private static int asked = 0;
    private static String sentence = "";
    private static String document = null;

    private Due() {
    }

    /** What the document says, in its own words; the answers behind it are due by this sentence. */
    static void says(String words) {
        sentence = words;
        asked++;
        if (!isInDocument(words)) {
            wrong++;
            System.out.println("the document does not say: " + words);
        }
    }

    private static boolean isInDocument(String words) {
        if (document == null) {
            try {
                document = Files.readString(DOCUMENT).replaceAll("\\s+", " ");
            } catch (IOException e) {
                throw new IllegalStateException("no document at " + DOCUMENT, e);
            }
        }
        return document.contains(words);
    }

    static void due(String call, long got, long want) {
        asked++;
        if (got != want) {
            wrong++;
            System.out.println(call + " answered " + got + ", due is " + want + bySentence());
        }
    }

    static void fail(String what) {
        asked++;
        wrong++;
        System.out.println(what + bySentence());
    }

    private static String bySentence() {
        return sentence.isEmpty() ? "" : " (" + sentence + ")";
    }

    static boolean isWrong() {
        return wrong != 0;
    }

    /** Feeds a text, eight bytes a call at most; how many the tape has. */
    static int feed(RottenSeats x, String text) {
        int has = x.count(10);
        for (int at = 0; at < text.length(); at += 8) {
            int n = Math.min(8, text.length() - at);
            long bytes = 0;
            for (int i = 0; i < n; i++) {
                bytes |= (long) (text.charAt(at + i) & 255) << 8 * i;
            }
            has = x.feed(n, bytes);
        }
        return has;
    }

    static int text(RottenSeats x, String text) {
        feed(x, text);
        return x.text(false);
    }

    static int petition(RottenSeats x, String text) {
        feed(x, text);
        return x.text(true);
    }

    /** What the six refusals -1 .. -6 have been so far. */
    static void refusals(String when, RottenSeats x, int... want) {
        for (int i = 0; i < want.length; i++) {
            due("count(" + (11 + i) + ") " + when, x.count(11 + i), want[i]);
        }
    }

    static void end() {
        System.out.println(wrong == 0 ? "all " + asked + " answers are as due"
                : wrong + " of " + asked + " answers are not as due");
        if (wrong != 0) {
            System.exit(1);
        }
    }
}
