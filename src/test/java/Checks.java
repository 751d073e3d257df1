import java.io.IOException;
import java.nio.charset.StandardCharsets;
import java.nio.file.Files;
import java.nio.file.Path;

/** Counts the answers that are not as due, and puts texts on an object's tape. */
final class Checks {
    private static final Path DOCUMENT = Path.of("../shared/DOC.md");

    private final String name;
    private final String document = words(DOCUMENT);
    private String sentence = "";
    private int seen;
    private int seenOfSentence;
    private int wrong;

    Checks(String name) {
        this.name = name;
    }

    /** What follows is of these words of the document, up to the next ones. */
    void sentence(String words) {
        endSentence();
        sentence = words;
        // a notice alone: that the document's words were changed need not make the answers wrong
        if (!document.isEmpty() && !document.contains(words)) {
            System.out.println(name + ": the document has no such words any more: " + words);
        }
    }

    private void endSentence() {
        if (!sentence.isEmpty() && seenOfSentence == 0) {
            due("answers that are looked at", 0, 1);
        }
        seenOfSentence = 0;
    }

    void due(String call, long got, long want) {
        seen++;
        seenOfSentence++;
        if (got != want) {
            wrong++;
            if (wrong <= 50) {
                String of = sentence.isEmpty() ? "" : " [" + sentence + "]";
                System.out.println(name + ": " + call + " answered " + got + ", due is " + want + of);
            }
        }
    }

    void due(String call, boolean got, boolean want) {
        due(call, got ? 1 : 0, want ? 1 : 0);
    }

    void rows(String call, int[] got, int... want) {
        due(call + " how many", got.length, want.length);
        for (int i = 0; i < Math.min(got.length, want.length); i++) {
            due(call + " at " + i, got[i], want[i]);
        }
    }

    boolean allRight() {
        return wrong == 0;
    }

    void end() {
        endSentence();
        System.out.println(name + ": " + seen + " answers, " + wrong + " wrong");
        if (wrong != 0 || seen == 0) {
            System.exit(1);
        }
    }

    private static String words(Path path) {
        try {
            return Files.readString(path).replaceAll("\\s+", " ");
        } catch (IOException e) {
            return "";
        }
    }

    /** Puts a text on the tape as it is, whatever its length is. */
    static void type(RedBlueWays x, String text) {
        byte[] bytes = text.getBytes(StandardCharsets.ISO_8859_1);
        for (int i = 0; i < bytes.length; i += 20) {
            int[] five = new int[5];
            for (int k = 0; k < 20; k++) {
                int b = i + k < bytes.length ? bytes[i + k] & 255 : 32;
                five[k / 4] = five[k / 4] << 8 | b;
            }
            x.feed(five[0], five[1], five[2], five[3], five[4]);
        }
        x.back((20 - bytes.length % 20) % 20);
    }

    static int read(RedBlueWays x, String text) {
        type(x, text);
        return x.read();
    }

    static RedBlueWays of(String text) {
        RedBlueWays x = new RedBlueWays();
        if (read(x, text) != 0) {
            throw new IllegalStateException("a faulty text: " + text);
        }
        return x;
    }
}
