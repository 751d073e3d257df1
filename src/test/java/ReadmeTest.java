import java.io.IOException;
import java.nio.file.Files;
import java.nio.file.Path;
import java.util.List;

/** The example of README.md: each of its calls, in its order, with the answer that stands there. */
public final class ReadmeTest {
    private static final Checks CHECKS = new Checks("ReadmeTest");
    private static final int NONE = RedBlueWays.NONE;

    private static List<String> page = List.of();
    private static int line;

    /** The way in which README.md puts a text on the tape. */
    private static void type(RedBlueWays net, String text) {
        int calls = (text.length() + 19) / 20;
        int[] five = new int[5];
        for (int i = 0; i < 20 * calls; i++) {
            five[i % 20 / 4] = five[i % 20 / 4] << 8 | (i < text.length() ? text.charAt(i) : ' ');
            if (i % 20 == 19) {
                net.feed(five[0], five[1], five[2], five[3], five[4]);
            }
        }
        net.back(20 * calls - text.length());
    }

    private static boolean comesNext(String start) {
        while (line < page.size() && page.get(line).isBlank()) {
            line++;
        }
        return line < page.size() && page.get(line).startsWith(start);
    }

    private static void typed(RedBlueWays net, String text) {
        CHECKS.due("the page goes on with the text " + text, comesNext("type(net, \"" + text + "\");"), true);
        line++;
        type(net, text);
    }

    private static void said(String call, Object answer) {
        boolean next = comesNext("net." + call + "; ");
        CHECKS.due("the page goes on with " + call, next, true);
        String told = next ? page.get(line).replaceAll(".*// |:.*", "") : "";
        CHECKS.due(call + " answered " + answer + ", told is " + told, told.equals(answer.toString()), true);
        line++;
    }

    private static void questions(RedBlueWays net) {
        said("count(8)", net.count(8));
        said("read()", net.read());
        said("count(0)", net.count(0));
        said("block(0, NONE)", net.block(0, NONE));
        said("block(0, 0)", net.block(0, 0));
        said("block(0, 1)", net.block(0, 1));
        said("cuts(0)", net.cuts(0));
        said("bridges(0)", net.bridges(0));
        said("order(0, 2, 1)", net.order(0, 2, 1));
        said("way(0, 3, 0, NONE)", net.way(0, 3, 0, NONE));
        said("way(0, 3, 0, 0)", net.way(0, 3, 0, 0));
        said("way(0, 3, 0, 1)", net.way(0, 3, 0, 1));
        said("way(0, 3, 1, NONE)", net.way(0, 3, 1, NONE));
        said("way(0, 3, 1, 1)", net.way(0, 3, 1, 1));
        said("both(0, 3)", net.both(0, 3));
        said("dear(0, 3, 0)", net.dear(0, 3, 0));
        said("cheap(3, 0)", net.cheap(3, 0));
        said("pair(3, 0)", net.pair(3, 0));
        said("grow(NONE)", net.grow(NONE));
        said("grow(0)", net.grow(0));
    }

    private static void byHand(RedBlueWays net) {
        said("join(2, false)", net.join(2, false));
        said("would(3, 0, 0)", net.would(3, 0, 0));
        said("would(3, 0, 2)", net.would(3, 0, 2));
        said("send(3, 0)", net.send(3, 0));
        said("link(0, 4)", net.link(0, 4));
        said("hop(0, 2, 0)", net.hop(0, 2, 0));
        said("hold(0)", net.hold(0));
        said("learn()", net.learn());
        said("hop(0, 2, 0)", net.hop(0, 2, 0));
        said("undo()", net.undo());
        said("hop(0, 2, 0)", net.hop(0, 2, 0));
        said("lay(0, 3, 5)", net.lay(0, 3, 5));
        said("restore(0)", net.restore(0));
        said("count(1)", net.count(1));
        said("undo()", net.undo());
    }

    /** Each method of the face stands somewhere on the page. */
    private static void names(String whole) {
        for (var method : RedBlueWays.class.getMethods()) {
            if (method.getDeclaringClass() == RedBlueWays.class) {
                boolean there = whole.contains("`" + method.getName() + "`") || whole.contains(method.getName() + "(");
                CHECKS.due("the page names " + method.getName(), there, true);
            }
        }
    }

    /** The page has type as it stands above, word by word. */
    private static void typeAsTold(String whole) throws IOException {
        String source = Files.readString(Path.of("src/test/java/ReadmeTest.java"));
        int begin = source.indexOf("static void type(");
        int end = source.indexOf("\n    }\n", begin) + "\n    }\n".length();
        String told = source.substring(begin, end).replace("\n    ", "\n");
        CHECKS.due("the page has the way in which a text comes onto the tape", whole.contains(told), true);
    }

    public static void main(String[] args) throws IOException {
        Path path = Path.of("README.md");
        names(Files.readString(path));
        typeAsTold(Files.readString(path));
        page = Files.readAllLines(path);
        line = page.indexOf("RedBlueWays net = new RedBlueWays();") + 1;
        CHECKS.due("the page has an example", line > 0, true);
        RedBlueWays net = new RedBlueWays();
        typed(net, "post a; post b; post c; post d; link a b 3; link b c 4; link c a 9; link c d 2;");
        questions(net);
        byHand(net);
        typed(net, "post a; post b; link a c 3;");
        said("read()", net.read());
        said("place()", net.place());
        said("count(0)", net.count(0));
        CHECKS.due("the example ends here", comesNext("```"), true);
        CHECKS.end();
    }
}
