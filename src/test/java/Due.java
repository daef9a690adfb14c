import java.io.IOException;
import java.nio.file.Files;
import java.nio.file.Path;

/** What all tests use: an answer beside the one that is due, by the sentence of the document that asks for it. */
final class Due {
    private static final String DOCUMENT = document();

    private static int asked = 0, wrong = 0;
    private static String sentence = "";

    private Due() { }

    /** What is asked from here on is due by a sentence of the document, for a promise; the words must stand there. */
    static void by(int promise, String words) {
        sentence = "Promise " + promise + ", \"" + words + "\": ";
        is("words of the document", DOCUMENT.isEmpty() || DOCUMENT.contains(words) ? 1 : 0, 1);
    }

    /** Its words, parted by one blank each; nothing if it isn't there: then the tests ask all but the words. */
    private static String document() {
        try {
            return Files.readString(Path.of("../shared/DOC.md")).replaceAll("\\s+", " ");
        } catch (IOException e) {
            return "";
        }
    }

    static void is(String call, long got, long want) {
        asked++;
        if (got == want) return;
        wrong++;
        System.out.println(sentence + call + " answered " + got + ", due is " + want);
    }

    /** Ends the test: exit code 1 if an answer was not the one that is due. */
    static void end(String test) {
        System.out.println(test + ": " + asked + " answers, " + wrong + " not as due");
        if (wrong != 0) System.exit(1);
    }

    /** Puts a text on THE TAPE: the last answer of feed(). */
    static int feed(BenchTowels x, String text) {
        int last = 0;
        for (int i = 0; i < text.length(); i += 8) {
            long eight = 0;
            int n = Math.min(8, text.length() - i);
            for (int j = 0; j < n; j++) eight |= (long) text.charAt(i + j) << 8 * j;
            last = x.feed(eight, n);
        }
        return last;
    }

    /** THE RULES by a text: the answer of rules(). */
    static int rules(BenchTowels x, String text) {
        feed(x, text);
        return x.rules();
    }

    /** One of each KIND, number = KIND - 1, each at a MACHINE of its own (1 to 5), MUSCLES 0, 1, 2, 0, 1. */
    static BenchTowels ofEachKind(int weight) {
        BenchTowels x = new BenchTowels();
        for (int kind = 1; kind <= 5; kind++) x.set(kind, kind, weight, (kind - 1) % 3);
        return x;
    }
}
