import java.io.IOException;
import java.nio.file.Files;
import java.nio.file.Path;

/** Counts what is checked and prints what is not as due. */
final class Due {
    private static final Path DOCUMENT = Path.of("..", "shared", "DOC.md");

    private static int wrong = 0;
    private static int right = 0;
    private static int sentences = 0;
    private static int countedAtSentence = 0;
    private static String sentenceNow = "";
    private static String document = null;

    private Due() {
    }

    /**
     * The checks from here on are for that sentence of the document, of those promises. A sentence that the
     * document does not have (any more), or that nothing is checked for, is a failure itself. Where the document
     * cannot be read, the answers alone are checked.
     */
    static void about(String promises, String sentence) {
        endSentence();
        sentenceNow = "promise " + promises + ", \"" + sentence + "\": ";
        sentences++;
        if (!document().isEmpty() && !document().contains(plain(sentence))) {
            wrong++;
            System.out.println(sentenceNow + "the document does not say so");
        }
        countedAtSentence = right + wrong;
    }

    static void is(String what, long got, long want) {
        if (got == want) {
            right++;
        } else {
            wrong++;
            System.out.println(sentenceNow + what + " answered " + got + ", due is " + want);
        }
    }

    static void that(String what, boolean holds) {
        is(what, holds ? 1 : 0, 1);
    }

    static int wrongSoFar() {
        return wrong;
    }

    static void end() {
        endSentence();
        System.out.println(right + " answers as due, " + wrong + " not"
                + (sentences > 0 ? ", for " + sentences + " sentences" : ""));
        if (wrong != 0 || right == 0) {
            System.exit(1);
        }
    }

    private static void endSentence() {
        if (!sentenceNow.isEmpty() && right + wrong == countedAtSentence) {
            wrong++;
            System.out.println(sentenceNow + "nothing was checked");
        }
        sentenceNow = "";
    }

    private static String document() {
        if (document == null) {
            try {
                document = plain(Files.readString(DOCUMENT));
            } catch (IOException e) {
                document = "";
            }
        }
        return document;
    }

    private static String plain(String text) {
        return text.replaceAll("\\s+", " ").trim();
    }
}
