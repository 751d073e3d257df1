import java.util.TreeSet;
import java.util.function.Supplier;

/**
 * Each argument of each method, with all others right, over numbers that are not its own: near ones, far ones, and
 * those that are right in their lowest bits alone. The answer is the one for "no such ones", and nothing happens.
 */
public final class WrongInputsTest {
    private static final Checks CHECKS = new Checks("WrongInputsTest");
    private static final int NONE = RedBlueWays.NONE;
    private static final String POSTS = "post a; post b; post c; post d; post e; post f; post g; post h; ";
    /** All eight posts in one ring, so that each of them has ways to each other one. */
    private static final String RING = POSTS + "link a b 1; link b c 2; link c d 3; link d e 4; link e f 5; link f g 6;"
            + " link g h 7; link h a 8; ";
    private static final String FULL = RING + "link a c 9; link a d 10; link a e 11; link b e 12; link c f 13;"
            + " link c g 14; link d h 15; link e g 16; root d;";
    private static final String PIECES = POSTS
            + "link a b 1; link c d 1; link d e 1; link c e 1; link f g 1; link g h 1;";
    private static final int[] NO_RIGHT_ONES = {0, -1};
    private static final int MOST_ASKED = 300;
    private static final TreeSet<Integer> NUMBERS = numbers();

    private interface Question {
        int answer(RedBlueWays x, int number);
    }

    private interface Act {
        boolean done(RedBlueWays x, int number);
    }

    private static TreeSet<Integer> numbers() {
        TreeSet<Integer> all = new TreeSet<>();
        for (int near = -40; near <= 40; near++) {
            all.add(near);
            all.add(Integer.MAX_VALUE + near);
            for (int bit = 5; bit < 32; bit++) {
                all.add((1 << bit) + near);
                all.add(-(1 << bit) + near);
            }
        }
        return all;
    }

    /** All numbers but those from the least to the greatest right one are answered so, and change nothing. */
    private static void wrong(String call, Supplier<RedBlueWays> made, int[] right, int want, Question ask) {
        int[] before = Ask.told(made.get());
        RedBlueWays x = made.get();
        int asked = 0;
        for (int number : NUMBERS) {
            if (number < right[0] || number > right[1]) {
                CHECKS.due(call + " of " + number, ask.answer(x, number), want);
                asked++;
            }
            // an object answers as promised for 512 calls, those that make it and tell what it has among them
            if (asked == MOST_ASKED || number == NUMBERS.last()) {
                CHECKS.rows("after " + call, Ask.told(x), before);
                x = made.get();
                asked = 0;
            }
        }
    }

    private static void none(String call, String text, int least, int greatest, Question ask) {
        wrong(call, () -> Checks.of(text), new int[] {least, greatest}, NONE, ask);
    }

    private static void refused(String call, String text, int least, int greatest, Act act) {
        wrong(call, () -> Checks.of(text), new int[] {least, greatest}, 0, (x, number) -> act.done(x, number) ? 1 : 0);
    }

    private static RedBlueWays onTape() {
        RedBlueWays x = new RedBlueWays();
        Checks.type(x, RING);
        return x;
    }

    private static RedBlueWays allHeld() {
        RedBlueWays x = Checks.of(FULL);
        for (int slot = 0; slot < 3; slot++) {
            CHECKS.due("hold", x.hold(slot), true);
        }
        CHECKS.due("join", x.join(4, false), true);
        return x;
    }

    private static void byHand() {
        wrong("back(n)", WrongInputsTest::onTape, new int[] {0, RING.length()}, NONE, RedBlueWays::back);
        refused("join(link, false)", FULL, 0, 15, (x, link) -> x.join(link, false));
        refused("join(link, true)", FULL, 0, 15, (x, link) -> x.join(link, true));
        refused("cost(link, 50)", FULL, 0, 15, (x, link) -> x.cost(link, 50));
        refused("cost(3, cost)", FULL, 1, 99, (x, cost) -> x.cost(3, cost));
        refused("power(post, false)", FULL, 0, 7, (x, post) -> x.power(post, false));
        refused("power(post, true)", FULL, 0, 7, (x, post) -> x.power(post, true));
        none("send(from, 2)", FULL, 0, 7, (x, from) -> x.send(from, 2));
        none("send(2, to)", FULL, 0, 7, (x, to) -> x.send(2, to));
        none("lay(one, 2, 50)", POSTS, 0, 7, (x, one) -> x.lay(one, 2, 50));
        none("lay(2, two, 50)", POSTS, 0, 7, (x, two) -> x.lay(2, two, 50));
        none("lay(2, 3, cost)", POSTS, 1, 99, (x, cost) -> x.lay(2, 3, cost));
        refused("hold(slot)", FULL, 0, 2, RedBlueWays::hold);
        wrong("restore(slot)", WrongInputsTest::allHeld, new int[] {0, 2}, 0, (x, slot) -> x.restore(slot) ? 1 : 0);
    }

    private static void nets() {
        for (int net = 0; net < 2; net++) {
            int which = net;
            none("piece(which, i)", PIECES, -1, 2, (x, i) -> x.piece(which, i));
            none("block(which, i)", PIECES, -1, 3, (x, i) -> x.block(which, i));
        }
        for (int i = NONE; i < 4; i++) {
            int at = i;
            none("piece(which, i)", PIECES, 0, 1, (x, which) -> x.piece(which, at));
            none("block(which, i)", PIECES, 0, 1, (x, which) -> x.block(which, at));
        }
        none("cuts(which)", PIECES, 0, 1, RedBlueWays::cuts);
        none("bridges(which)", PIECES, 0, 1, RedBlueWays::bridges);
        none("count(what)", PIECES, 0, 15, RedBlueWays::count);
        for (int i = 0; i < 6; i++) {
            int what = i;
            none("link(link, what)", PIECES, 0, 5, (x, link) -> x.link(link, what));
            none("link(link, what)", FULL, 0, 15, (x, link) -> x.link(link, what));
        }
        none("link(2, what)", FULL, 0, 5, (x, what) -> x.link(2, what));
    }

    private static void ways() {
        none("head(root, 3)", FULL, 0, 7, (x, root) -> x.head(root, 3));
        none("head(3, post)", FULL, 0, 7, (x, post) -> x.head(3, post));
        none("last(root, 3)", FULL, 0, 7, (x, root) -> x.last(root, 3));
        none("last(3, post)", FULL, 0, 7, (x, post) -> x.last(3, post));
        none("order(root, 3, NONE)", FULL, 0, 7, (x, root) -> x.order(root, 3, NONE));
        none("order(3, post, 0)", FULL, 0, 7, (x, post) -> x.order(3, post, 0));
        none("order(3, 5, i)", FULL, -1, 7, (x, i) -> x.order(3, 5, i));
        none("both(root, 3)", FULL, 0, 7, (x, root) -> x.both(root, 3));
        none("both(3, post)", FULL, 0, 7, (x, post) -> x.both(3, post));
        none("search(root, 3, 0)", FULL, 0, 7, (x, root) -> x.search(root, 3, 0));
        none("search(3, post, 1)", FULL, 0, 7, (x, post) -> x.search(3, post, 1));
        none("search(3, 5, what)", FULL, 0, 2, (x, what) -> x.search(3, 5, what));
        none("search(3, 3, what)", FULL, 0, 2, (x, what) -> x.search(3, 3, what));
    }

    private static void colours() {
        for (int i = 0; i < 2; i++) {
            int colour = i;
            int hops = Checks.of(FULL).way(3, 5, colour, NONE);
            none("hop(root, 3, colour)", FULL, 0, 7, (x, root) -> x.hop(root, 3, colour));
            none("hop(3, post, colour)", FULL, 0, 7, (x, post) -> x.hop(3, post, colour));
            none("way(root, 3, colour, NONE)", FULL, 0, 7, (x, root) -> x.way(root, 3, colour, NONE));
            none("way(3, post, colour, 0)", FULL, 0, 7, (x, post) -> x.way(3, post, colour, 0));
            none("way(3, 5, colour, i)", FULL, -1, hops - 1, (x, at) -> x.way(3, 5, colour, at));
            none("dear(root, 3, colour)", FULL, 0, 7, (x, root) -> x.dear(root, 3, colour));
            none("dear(3, post, colour)", FULL, 0, 7, (x, post) -> x.dear(3, post, colour));
        }
        none("hop(3, 5, colour)", FULL, 0, 1, (x, colour) -> x.hop(3, 5, colour));
        none("way(3, 5, colour, NONE)", FULL, 0, 1, (x, colour) -> x.way(3, 5, colour, NONE));
        none("way(3, 5, colour, 0)", FULL, 0, 1, (x, colour) -> x.way(3, 5, colour, 0));
        none("dear(3, 5, colour)", FULL, 0, 1, (x, colour) -> x.dear(3, 5, colour));
    }

    private static void ears() {
        RedBlueWays full = Checks.of(FULL);
        int ears = full.ear(3, 5, NONE, NONE);
        CHECKS.due("ears: as many as links beyond those of a tree, and one", ears, 16 - 7);
        none("ear(root, 3, NONE, NONE)", FULL, 0, 7, (x, root) -> x.ear(root, 3, NONE, NONE));
        none("ear(3, post, 0, 0)", FULL, 0, 7, (x, post) -> x.ear(3, post, 0, 0));
        none("ear(3, 5, i, NONE)", FULL, -1, ears - 1, (x, i) -> x.ear(3, 5, i, NONE));
        none("ear(3, 5, i, 0)", FULL, -1, ears - 1, (x, i) -> x.ear(3, 5, i, 0));
        wrong("ear(3, 5, NONE, k)", () -> Checks.of(FULL), NO_RIGHT_ONES, ears, (x, k) -> x.ear(3, 5, NONE, k));
        for (int i = 0; i < ears; i++) {
            int ear = i;
            none("ear(3, 5, i, k)", FULL, -1, full.ear(3, 5, i, NONE) - 1, (x, k) -> x.ear(3, 5, ear, k));
        }
    }

    private static void data() {
        for (int i = 0; i < 4; i++) {
            int what = i;
            none("would(from, 3, what)", FULL, 0, 7, (x, from) -> x.would(from, 3, what));
            none("would(3, to, what)", FULL, 0, 7, (x, to) -> x.would(3, to, what));
        }
        none("would(3, 5, what)", FULL, 0, 3, (x, what) -> x.would(3, 5, what));
        none("loss(from, 3)", FULL, 0, 7, (x, from) -> x.loss(from, 3));
        none("loss(3, to)", FULL, 0, 7, (x, to) -> x.loss(3, to));
        none("weak(from, 3)", FULL, 0, 7, (x, from) -> x.weak(from, 3));
        none("weak(3, to)", FULL, 0, 7, (x, to) -> x.weak(3, to));
        none("load(link)", FULL, 0, 15, RedBlueWays::load);
        none("load(link)", PIECES, 0, 5, RedBlueWays::load);
        none("cheap(from, 3)", FULL, 0, 7, (x, from) -> x.cheap(from, 3));
        none("cheap(3, to)", FULL, 0, 7, (x, to) -> x.cheap(3, to));
        none("pair(from, 3)", FULL, 0, 7, (x, from) -> x.pair(from, 3));
        none("pair(3, to)", FULL, 0, 7, (x, to) -> x.pair(3, to));
    }

    private static void grown() {
        String triangles = POSTS + "link a b 1; link b c 1; link c a 1; link d e 1; link e f 1; link f d 1;";
        CHECKS.due("new links", Checks.of(triangles).grow(NONE), 4);
        none("grow(i), four", triangles, -1, 3, RedBlueWays::grow);
        none("grow(i), tied", FULL, -1, -1, RedBlueWays::grow);
        wrong("grow(i), too many", () -> Checks.of(POSTS), NO_RIGHT_ONES, -2, RedBlueWays::grow);
    }

    public static void main(String[] args) {
        byHand();
        nets();
        ways();
        colours();
        ears();
        data();
        grown();
        CHECKS.end();
    }
}
