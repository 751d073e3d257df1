import java.nio.charset.StandardCharsets;

/** Counts the answers that are not as due, and puts texts on an object's tape. */
final class Checks {
    private final String name;
    private int seen;
    private int wrong;

    Checks(String name) {
        this.name = name;
    }

    void due(String call, long got, long want) {
        seen++;
        if (got != want) {
            wrong++;
            if (wrong <= 50) {
                System.out.println(name + ": " + call + " answered " + got + ", due is " + want);
            }
        }
    }

    void due(String call, boolean got, boolean want) {
        due(call, got ? 1 : 0, want ? 1 : 0);
    }

    boolean allRight() {
        return wrong == 0;
    }

    void end() {
        System.out.println(name + ": " + seen + " answers, " + wrong + " wrong");
        if (wrong != 0 || seen == 0) {
            System.exit(1);
        }
    }

    /** Puts a text on the tape as it is, whatever its length is. */
    static void type(RedBlueWays x, String text) {
        byte[] bytes = text.getBytes(StandardCharsets.ISO_8859_1);
        for (int i = 0; i < bytes.length; i += 20) {
            int[] five = new int[5];
            for (int k = 0; k < 20; k++) {
                int b = i + k < bytes.length ? bytes[i + k] & 255 : 32;
                five[k / 4] = five[k / 4] << 8 | b;
            }
            x.feed(five[0], five[1], five[2], five[3], five[4]);
        }
        x.back((20 - bytes.length % 20) % 20);
    }

    static int read(RedBlueWays x, String text) {
        type(x, text);
        return x.read();
    }

    static RedBlueWays of(String text) {
        RedBlueWays x = new RedBlueWays();
        if (read(x, text) != 0) {
            throw new IllegalStateException("a faulty text: " + text);
        }
        return x;
    }
}
