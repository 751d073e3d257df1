/** The edges of chapter II and of promises 13 to 25: pieces, cuts, bridges, blocks, orders, hops, the search, ears. */
public final class NetEdgesTest {
    private static final int NONE = RedBlueWays.NONE;
    private static final int RED = 0;
    private static final int BLUE = 1;
    private static final int[] NO_POSTS = {-1, -2, -32, Integer.MIN_VALUE, 6, 7, 8, 9, 32, 33, 64, 256, Integer.MAX_VALUE};
    private static final int[] NO_INDEX = {-2, -3, -32, Integer.MIN_VALUE, 16, 31, 32, 64, 255, Integer.MAX_VALUE};
    private static final int[] NO_TWO = {-1, -2, 2, 3, 4, 32, 33, Integer.MIN_VALUE, Integer.MAX_VALUE};

    private static final String EIGHT = "post a;post b;post c;post d;post e;post f;post g;post h;";
    private static final String TRIANGLE = "post a;post b;post c;link a b 1;link b c 2;link c a 4;";
    private static final String TWO = "post a;post b;link a b 1;";
    private static final String ROW = "post a;post b;post c;link a b 1;link b c 1;";
    private static final String RING = EIGHT + "link a b 1;link b c 1;link c d 1;link d e 1;link e f 1;link f g 1;"
            + "link g h 1;link h a 1;";
    private static final String STAR = EIGHT + "link a b 1;link a c 1;link a d 1;link a e 1;link a f 1;link a g 1;link a h 1;";
    /** Each of a, b, c, d with each of e, f, g, h: 16 links. */
    private static final String CROSSED = EIGHT + "link a e 1;link a f 1;link a g 1;link a h 1;link b e 1;link b f 1;link b g 1;"
            + "link b h 1;link c e 1;link c f 1;link c g 1;link c h 1;link d e 1;link d f 1;link d g 1;link d h 1;";
    /** A triangle abc, a bridge cd, e alone, f off with a link to it. */
    private static final String BOW = "post a;post b;post c;post d;post e;post f;link a b 1;link b c 1;link a c 1;"
            + "link c d 1;link e f 1;off f;";

    private static final Checks CHECKS = new Checks("NetEdgesTest");

    private static void due(String call, long got, long want) {
        CHECKS.due(call, got, want);
    }

    private static void rows(String call, int[] got, int... want) {
        CHECKS.rows(call, got, want);
    }

    private static void nets() {
        CHECKS.sentence("The NET: POSTS that are on, LINKS that are up between two that are on.");
        RedBlueWays x = Checks.of("post a;post b;post c;link a b 1;link b c 1;link c a 1;off c;down a b;");
        rows("one down, two beside one that is off", Ask.pieces(x, 0), 1, 2);
        due("links of the net", x.count(3), 0);
        x.power(2, true);
        due("c on", x.count(3), 6);
        x.join(0, true);
        due("ab up", x.count(3), 7);
        x.power(0, false);
        x.power(1, false);
        due("both posts off", x.count(3), 0);
        rows("one left", Ask.pieces(x, 0), 4);

        CHECKS.sentence("The NET LEARNT: the NET as it was at the latest learn(), or read().");
        rows("as at read()", Ask.pieces(x, 1), 1, 2);
        x.learn();
        rows("as at learn()", Ask.pieces(x, 1), 4);
        x.power(0, true);
        rows("not as it is now", Ask.pieces(x, 1), 4);
        due("link 2, up between two that are on, but not learnt", x.link(2, 5), 0);
    }

    private static void pieces() {
        CHECKS.sentence("PIECES: POSTS that come to one another by LINKS, as many as can be; by their least POST, the least first.");
        rows("no posts", Ask.pieces(new RedBlueWays(), 0));
        rows("one post", Ask.pieces(Checks.of("post a;"), 0), 1);
        rows("one post, off", Ask.pieces(Checks.of("post a;off a;"), 0));
        rows("eight alone", Ask.pieces(Checks.of(EIGHT), 1), 1, 2, 4, 8, 16, 32, 64, 128);
        rows("eight in one", Ask.pieces(Checks.of(RING), 0), 255);
        rows("a with h, b with g, c with f, d with e",
                Ask.pieces(Checks.of(EIGHT + "link a h 1;link b g 1;link c f 1;link d e 1;"), 0), 129, 66, 36, 24);
        rows("the least first, though its bits are more", Ask.pieces(Checks.of("post a;post b;post c;link a c 1;"), 0), 5, 2);

        CHECKS.sentence("how many (i NONE), else the i-th (bits); NONE: no such ones.");
        RedBlueWays x = Checks.of(BOW);
        due("piece(0, 2)", x.piece(0, 2), NONE);
        due("piece(1, 2)", x.piece(1, 2), NONE);
        due("block(0, 2)", x.block(0, 2), NONE);
        due("block(1, 2)", x.block(1, 2), NONE);
        due("the last piece", x.piece(0, 1), 16);
        due("the last block", x.block(0, 1), 12);
        for (int i : NO_INDEX) {
            rows("i " + i, new int[] {x.piece(0, i), x.piece(1, i), x.block(0, i), x.block(1, i)}, NONE, NONE, NONE, NONE);
        }
        for (int which : NO_TWO) {
            rows("which " + which, new int[] {x.piece(which, NONE), x.piece(which, 0), x.block(which, NONE), x.block(which, 0)},
                    NONE, NONE, NONE, NONE);
        }
        RedBlueWays y = Checks.of(EIGHT);
        due("the 8th piece", y.piece(0, 7), 128);
        due("a 9th", y.piece(0, 8), NONE);
        RedBlueWays z = Checks.of(STAR);
        due("the 7th block", z.block(0, 6), 129);
        due("an 8th", z.block(0, 7), NONE);
        RedBlueWays n = new RedBlueWays();
        rows("a new one", new int[] {n.piece(0, NONE), n.piece(1, NONE), n.block(0, NONE), n.block(1, NONE), n.piece(0, 0),
            n.block(1, 0)}, 0, 0, 0, 0, NONE, NONE);
    }

    private static void cutsAndBridges() {
        CHECKS.sentence("CUTS: POSTS without each of which alone the NET has more PIECES (but of one POST alone: none).");
        due("one post alone", Checks.of("post a;").cuts(0), 0);
        due("one post alone, learnt", Checks.of("post a;").cuts(1), 0);
        due("one post alone, for the other is off", Checks.of(TWO + "off a;").cuts(0), 0);
        due("no posts", new RedBlueWays().cuts(0), 0);
        due("all off", Checks.of(TWO + "off a;off b;").cuts(0), 0);
        due("two with a link", Checks.of(TWO).cuts(0), 0);
        due("eight alone", Checks.of(EIGHT).cuts(0), 0);
        due("a row", Checks.of(ROW).cuts(0), 2);
        due("a row, and one alone", Checks.of(ROW + "post d;").cuts(0), 2);
        due("a row without its middle", Checks.of(ROW + "off b;").cuts(0), 0);
        due("a star", Checks.of(STAR).cuts(0), 1);
        due("a ring", Checks.of(RING).cuts(0), 0);
        due("a ring with a link down", Checks.of(RING + "down a b;").cuts(0), 252);
        due("two at once would part it, one alone does not", Checks.of(CROSSED).cuts(0), 0);

        CHECKS.sentence("BRIDGES: LINKS without each of which it has more PIECES.");
        due("no links", Checks.of(EIGHT).bridges(0), 0);
        due("one link", Checks.of(TWO).bridges(0), 1);
        due("one link, down", Checks.of(TWO + "down a b;").bridges(0), 0);
        due("one link, beside a post that is off", Checks.of(TWO + "off b;").bridges(0), 0);
        due("a triangle", Checks.of(TRIANGLE).bridges(0), 0);
        due("a ring with a link down", Checks.of(RING + "down a b;").bridges(0), 254);
        due("the 16th link", bridgeOf16().bridges(0), 32768);

        CHECKS.sentence("CUTS of 0, 1 (bits); NONE: no such which.");
        RedBlueWays x = Checks.of(BOW);
        x.join(3, false);
        rows("now, learnt", new int[] {x.cuts(0), x.cuts(1)}, 0, 4);
        for (int which : NO_TWO) {
            due("cuts(" + which + ")", x.cuts(which), NONE);
        }

        CHECKS.sentence("BRIDGES of 0, 1 (bits: 1 LINK 0, 2 LINK 1 ..); NONE: no such which.");
        rows("now, learnt", new int[] {x.bridges(0), x.bridges(1)}, 0, 8);
        for (int which : NO_TWO) {
            due("bridges(" + which + ")", x.bridges(which), NONE);
        }
    }

    /** Fifteen links of six posts, all with all, and the 16th to a seventh. */
    private static RedBlueWays bridgeOf16() {
        RedBlueWays x = Checks.of("post a;post b;post c;post d;post e;post f;post g;");
        for (int a = 0; a < 6; a++) {
            for (int b = a + 1; b < 6; b++) {
                x.lay(a, b, 1);
            }
        }
        due("the 16th", x.lay(6, 3, 1), 15);
        return x;
    }

    private static void blocks() {
        CHECKS.sentence("BLOCKS: sets of POSTS, two at least, that come to one another within the set, and do so without any one of it");
        rows("no posts", Ask.blocks(new RedBlueWays(), 0));
        rows("one post", Ask.blocks(Checks.of("post a;"), 0));
        rows("eight alone", Ask.blocks(Checks.of(EIGHT), 0));
        rows("two without a link", Ask.blocks(Checks.of("post a;post b;"), 1));
        rows("a ring of eight", Ask.blocks(Checks.of(RING), 0), 255);
        rows("16 links", Ask.blocks(Checks.of(CROSSED), 0), 255);
        rows("all but one", Ask.blocks(bridgeOf16(), 0), 63, 72);

        CHECKS.sentence("(two with a LINK, if in no greater one); by their bits (1 POST 0, 2 POST 1 ..), the least first.");
        rows("two", Ask.blocks(Checks.of(TWO), 0), 3);
        rows("two of a triangle are in a greater one", Ask.blocks(Checks.of(TRIANGLE), 0), 7);
        rows("a star", Ask.blocks(Checks.of(STAR), 1), 3, 5, 9, 17, 33, 65, 129);
        rows("by bits, not by the least post",
                Ask.blocks(Checks.of(EIGHT + "link a h 1;link b g 1;link c f 1;link d e 1;"), 0), 24, 36, 66, 129);
        rows("a ring with a link down", Ask.blocks(Checks.of(RING + "down a b;"), 0), 6, 12, 24, 48, 96, 129, 192);
    }

    private static void headAndLast() {
        CHECKS.sentence("Its HEAD: r, if it has r; else the one POST of it that comes to r without the others of the BLOCK.");
        RedBlueWays x = Checks.of(BOW);
        rows("it has r", new int[] {x.head(0, 1), x.head(0, 2), x.head(2, 3), x.head(3, 2)}, 0, 0, 2, 3);
        rows("it has not", new int[] {x.head(3, 0), x.head(3, 1), x.head(0, 3), x.head(1, 3)}, 2, 2, 2, 2);
        RedBlueWays row = Checks.of(RING + "down a b;");
        rows("a row of eight, from its end", new int[] {row.head(0, 7), row.head(0, 6), row.head(0, 2), row.head(0, 1)}, 0, 7, 3, 2);
        rows("and from the other one", new int[] {row.head(1, 2), row.head(1, 7), row.head(1, 0)}, 1, 6, 7);

        CHECKS.sentence("Its LAST: the lowest POST of the BLOCK that has a LINK to HEAD.");
        rows("lasts", new int[] {x.last(0, 1), x.last(0, 2), x.last(1, 0), x.last(1, 2), x.last(2, 0), x.last(3, 0), x.last(2, 3)},
                1, 1, 0, 0, 0, 0, 3);
        RedBlueWays kite = Checks.of("post a;post b;post c;post d;link a c 1;link a d 1;link b c 1;link b d 1;");
        rows("b has no link to a", new int[] {kite.last(0, 1), kite.last(0, 2), kite.last(0, 3), kite.last(2, 3)}, 2, 2, 2, 0);

        CHECKS.sentence("HEAD by a root; NONE: no such ones, one and the same, not of one PIECE, LEARNT.");
        int[][] none = {{0, 0}, {3, 3}, {4, 4}, {5, 5}, {0, 4}, {4, 0}, {4, 5}, {5, 4}, {0, 5}, {5, 0}};
        for (int[] n : none) {
            noneAt(Checks.of(BOW), n[0], n[1]);
        }
        for (int no : NO_POSTS) {
            noneAt(Checks.of(BOW), 0, no);
            noneAt(Checks.of(BOW), no, 0);
            noneAt(Checks.of(BOW), no, no);
            noneAt(new RedBlueWays(), no, 0);
        }
        noneAt(new RedBlueWays(), 0, 0);
        noneAt(new RedBlueWays(), 0, 1);
        x.power(5, true);
        due("in one piece, but not learnt", x.head(4, 5), NONE);
        x.join(3, false);
        due("learnt, but not in one piece", x.head(3, 0), 2);
        x.power(3, false);
        due("learnt, but off", x.head(3, 0), 2);
        x.learn();
        noneAt(x, 3, 0);
        noneAt(x, 0, 3);
        due("learnt", x.head(4, 5), 4);

        CHECKS.sentence("LAST by a root; NONE: as head().");
        rows("of two", new int[] {x.last(4, 5), x.last(5, 4)}, 5, 4);
        rows("one and the same, off, not of one piece", new int[] {x.last(4, 4), x.last(0, 3), x.last(0, 4)}, NONE, NONE, NONE);
        for (int no : NO_POSTS) {
            rows("last of " + no, new int[] {x.last(0, no), x.last(no, 0), x.last(no, no)}, NONE, NONE, NONE);
        }
    }

    /** All that is of a post by a root is NONE, whatever else is asked for. */
    private static void noneAt(RedBlueWays x, int root, int post) {
        String args = "(" + root + ", " + post + ")";
        due("head" + args, x.head(root, post), NONE);
        due("last" + args, x.last(root, post), NONE);
        due("both" + args, x.both(root, post), NONE);
        for (int i = NONE; i < 2; i++) {
            due("order" + args, x.order(root, post, i), NONE);
            due("ear" + args, x.ear(root, post, i, NONE), NONE);
            due("ear" + args, x.ear(root, post, i, 0), NONE);
            for (int colour = 0; colour < 2; colour++) {
                due("hop" + args, x.hop(root, post, colour), NONE);
                due("way" + args, x.way(root, post, colour, i), NONE);
                due("dear" + args, x.dear(root, post, colour), NONE);
            }
        }
    }

    private static void orders() {
        CHECKS.sentence("Its ORDER: of all its POSTS, HEAD first, LAST last, each other one with a LINK to one ahead of it and to one behind it");
        rows("a block of two", Ask.order(Checks.of(TWO), 0, 1), 0, 1);
        rows("from the other end", Ask.order(Checks.of(TWO), 1, 0), 1, 0);
        rows("a ring of eight", Ask.order(Checks.of(RING), 0, 4), 0, 7, 6, 5, 4, 3, 2, 1);
        rows("from h", Ask.order(Checks.of(RING), 7, 0), 7, 6, 5, 4, 3, 2, 1, 0);
        rows("from d", Ask.order(Checks.of(RING), 3, 0), 3, 4, 5, 6, 7, 0, 1, 2);

        CHECKS.sentence("of such orders the one whose second POST is lowest, then the third, and so on.");
        rows("16 links", Ask.order(Checks.of(CROSSED), 0, 7), 0, 5, 1, 2, 6, 7, 3, 4);
        rows("the lowest second would leave one behind", Ask.order(Checks.of("post a;post b;post c;post d;link a b 1;"
                + "link a c 1;link a d 1;link b c 1;link c d 1;"), 0, 1), 0, 3, 2, 1);

        CHECKS.sentence("ORDER of the OWN BLOCK by a root: how many (i NONE), else the i-th POST, from 0 on. NONE: as head(), no such i.");
        RedBlueWays x = Checks.of(RING);
        due("how many", x.order(0, 1, NONE), 8);
        due("the last", x.order(0, 1, 7), 1);
        due("i 8", x.order(0, 1, 8), NONE);
        for (int i : NO_INDEX) {
            due("i " + i, x.order(0, 1, i), NONE);
        }
        RedBlueWays y = Checks.of(TWO);
        rows("of two", new int[] {y.order(0, 1, NONE), y.order(0, 1, 1), y.order(0, 1, 2)}, 2, 1, NONE);
    }

    private static void hops() {
        CHECKS.sentence("RED hop of v: the POST of the OWN BLOCK with a LINK to v that is first in ORDER");
        RedBlueWays x = Checks.of(TRIANGLE);
        due("c to a", x.hop(0, 2, RED), 0);
        RedBlueWays cross = Checks.of(CROSSED);
        rows("by the order a f b c g h d e", new int[] {cross.hop(0, 5, RED), cross.hop(0, 1, RED), cross.hop(0, 2, RED),
            cross.hop(0, 3, RED), cross.hop(0, 6, RED), cross.hop(0, 7, RED)}, 0, 5, 5, 5, 0, 0);

        CHECKS.sentence("(v being LAST, and the BLOCK of more than two: but HEAD)");
        due("the last of three", x.hop(0, 1, RED), 2);
        due("the last of eight in a ring", Checks.of(RING).hop(0, 1, RED), 2);
        due("the last of eight", cross.hop(0, 4, RED), 1);
        due("the last of two", Checks.of(TWO).hop(0, 1, RED), 0);
        due("the last of two in a star", Checks.of(STAR).hop(0, 7, RED), 0);
        due("over a bridge to another block", Checks.of(BOW).hop(0, 3, RED), 2);

        CHECKS.sentence("BLUE hop: the one that is last in ORDER; of LAST: HEAD.");
        rows("of three", new int[] {x.hop(0, 1, BLUE), x.hop(0, 2, BLUE)}, 0, 1);
        due("of two", Checks.of(TWO).hop(0, 1, BLUE), 0);
        rows("of eight", new int[] {cross.hop(0, 4, BLUE), cross.hop(0, 5, BLUE), cross.hop(0, 1, BLUE), cross.hop(0, 6, BLUE),
            cross.hop(0, 7, BLUE)}, 0, 3, 4, 3, 3);

        CHECKS.sentence("The hop of a POST by a root: colour 0 RED, 1 BLUE; NONE: as head(), no such colour.");
        for (int colour : NO_TWO) {
            due("colour " + colour, x.hop(0, 1, colour), NONE);
            due("dear, colour " + colour, x.dear(0, 1, colour), NONE);
            due("way, colour " + colour, x.way(0, 1, colour, NONE), NONE);
            due("way, colour " + colour, x.way(0, 1, colour, 0), NONE);
        }
    }

    private static void ways() {
        CHECKS.sentence("RED way, BLUE way to r: RED hops, BLUE hops alone, from OWN BLOCK to OWN BLOCK, up to r.");
        RedBlueWays ring = Checks.of(RING);
        rows("the longest red", Ask.way(ring, 0, 1, RED), 2, 3, 4, 5, 6, 7, 0);
        rows("the shortest blue", Ask.way(ring, 0, 1, BLUE), 0);
        rows("the longest blue", Ask.way(ring, 0, 7, BLUE), 6, 5, 4, 3, 2, 1, 0);
        rows("the shortest red", Ask.way(ring, 0, 7, RED), 0);
        RedBlueWays row = Checks.of(RING + "down h a;");
        rows("seven blocks, red", Ask.way(row, 0, 7, RED), 6, 5, 4, 3, 2, 1, 0);
        rows("seven blocks, blue", Ask.way(row, 0, 7, BLUE), 6, 5, 4, 3, 2, 1, 0);

        CHECKS.sentence("The RED, BLUE way: how many hops (i NONE), else the POST to which the i-th goes, from 0 on. NONE: as head(), no such colour, i.");
        rows("how many, the last, one more", new int[] {ring.way(0, 1, RED, NONE), ring.way(0, 1, RED, 6), ring.way(0, 1, RED, 7)},
                7, 0, NONE);
        rows("one hop", new int[] {ring.way(0, 1, BLUE, NONE), ring.way(0, 1, BLUE, 0), ring.way(0, 1, BLUE, 1)}, 1, 0, NONE);
        for (int i : NO_INDEX) {
            due("i " + i, ring.way(0, 1, RED, i), NONE);
            due("i " + i, ring.way(0, 1, BLUE, i), NONE);
        }

        CHECKS.sentence("POSTS that are on both ways, the POST itself and the root aside (bits); NONE: as head().");
        rows("nothing shared", new int[] {ring.both(0, 1), ring.both(0, 4), ring.both(7, 0)}, 0, 0, 0);
        rows("all shared", new int[] {row.both(0, 7), row.both(7, 0), row.both(0, 2), row.both(0, 1)}, 126, 126, 2, 0);
        due("two", Checks.of(TWO).both(0, 1), 0);
    }

    private static void searches() {
        CHECKS.sentence("to the lowest one that it has not met yet, back to where it came from when there is none");
        RedBlueWays star = Checks.of(STAR);
        RedBlueWays ring = Checks.of(RING);
        RedBlueWays tree = Checks.of("post a;post b;post c;post d;post e;link a d 1;link d c 1;link a b 1;link b e 1;");
        for (int p = 1; p < 8; p++) {
            rows("star, post " + p, new int[] {star.search(0, p, 0), star.search(0, p, 1), star.search(0, p, 2)}, p, 0, p);
            rows("ring, post " + p, new int[] {ring.search(0, p, 0), ring.search(0, p, 1), ring.search(0, p, 2)}, p, p - 1, 0);
        }
        rows("back twice", new int[] {tree.search(0, 1, 0), tree.search(0, 4, 0), tree.search(0, 3, 0), tree.search(0, 2, 0)}, 1, 2, 3, 4);
        rows("parents", new int[] {tree.search(0, 1, 1), tree.search(0, 4, 1), tree.search(0, 3, 1), tree.search(0, 2, 1)}, 0, 1, 0, 3);

        CHECKS.sentence("NUMBERS as they are met (r: 0), the PARENT of each but r: where it came from");
        rows("r", new int[] {star.search(0, 0, 0), star.search(5, 5, 0), ring.search(7, 7, 0)}, 0, 0, 0);
        rows("from the star's end", new int[] {star.search(5, 0, 0), star.search(5, 1, 0), star.search(5, 7, 0)}, 1, 2, 7);

        CHECKS.sentence("LOW: the least of its own NUMBER, those of all POSTS to which it has a LINK, but its PARENT, and the LOWS of all of which it is PARENT.");
        RedBlueWays two = Checks.of(TWO);
        rows("two: the parent is left out", new int[] {two.search(0, 1, 2), two.search(0, 0, 2)}, 1, 0);
        RedBlueWays x = Checks.of(BOW);
        rows("a triangle behind a bridge", new int[] {x.search(3, 2, 2), x.search(3, 0, 2), x.search(3, 1, 2)}, 1, 1, 1);

        CHECKS.sentence("what 0 the NUMBER of a POST, 1 its PARENT (-2: it is the root), 2 LOW; NONE: no such ones, not met, off when LEARNT.");
        rows("one alone", new int[] {x.search(4, 4, 0), x.search(4, 4, 1), x.search(4, 4, 2)}, 0, -2, 0);
        int[][] none = {{0, 4}, {4, 0}, {5, 5}, {5, 0}, {0, 5}, {4, 5}, {5, 4}};
        for (int[] n : none) {
            noSearch(x, n[0], n[1]);
        }
        for (int no : NO_POSTS) {
            noSearch(x, 0, no);
            noSearch(x, no, 0);
            noSearch(x, no, no);
        }
        for (int what : new int[] {-1, -2, 3, 4, 32, Integer.MIN_VALUE, Integer.MAX_VALUE}) {
            due("what " + what, x.search(0, 1, what), NONE);
            due("of the root, what " + what, x.search(0, 0, what), NONE);
        }
        noSearch(new RedBlueWays(), 0, 0);
        x.power(5, true);
        noSearch(x, 5, 5);
        noSearch(x, 4, 5);
        x.power(0, false);
        due("on when learnt, off now", x.search(0, 0, 1), -2);
    }

    private static void noSearch(RedBlueWays x, int root, int post) {
        for (int what = 0; what < 3; what++) {
            due("search(" + root + ", " + post + ", " + what + ")", x.search(root, post, what), NONE);
        }
    }

    private static void ears() {
        CHECKS.sentence("the first LINK of it is that one which goes to the lowest POST; this being IN, it ends");
        RedBlueWays cross = Checks.of(CROSSED);
        due("ears", cross.ear(0, 4, NONE, NONE), 9);
        int[][] want = {{0, 4, 1, 5, 0}, {0, 6, 1}, {0, 7, 1}, {4, 2, 5}, {4, 3, 5}, {6, 2}, {6, 3}, {7, 2}, {7, 3}};
        for (int i = 0; i < want.length; i++) {
            rows("ear " + i, Ask.ear(cross, 0, 4, i), want[i]);
        }

        CHECKS.sentence("over POSTS that are not IN to one that is IN, another one than where it began");
        RedBlueWays far = Checks.of("post a;post b;post c;post d;post e;post f;post g;link a b 1;link b c 1;link c a 1;"
                + "link a d 1;link d e 1;link e a 1;link d f 1;link f g 1;link g c 1;");
        due("ears", far.ear(0, 1, NONE, NONE), 3);
        rows("ear 0", Ask.ear(far, 0, 1, 0), 0, 1, 2, 0);
        rows("not d e a, which is shorter", Ask.ear(far, 0, 1, 1), 0, 3, 5, 6, 2);
        rows("ear 2", Ask.ear(far, 0, 1, 2), 0, 4, 3);
        RedBlueWays by = Checks.of(EIGHT + "link a f 1;link f g 1;link g a 1;link f b 1;link b d 1;link b e 1;link d f 1;link e c 1;"
                + "link c h 1;link h g 1;link f h 1;");
        due("ears", by.ear(0, 3, NONE, NONE), 4);
        rows("b e c h g, not b d and by f, where it began", Ask.ear(by, 0, 3, 1), 5, 1, 4, 2, 7, 6);
        rows("ear 2", Ask.ear(by, 0, 3, 2), 5, 3, 1);
        rows("ear 3", Ask.ear(by, 0, 3, 3), 5, 7);
        RedBlueWays lone = Checks.of(EIGHT + "link e f 1;link f b 1;link b g 1;link g c 1;link c h 1;link h d 1;link d a 1;link a e 1;"
                + "link f g 1;link f d 1;");
        rows("of the first one a is two links from its end", Ask.ear(lone, 5, 0, 0), 5, 1, 6, 5);
        rows("by h, since a comes to f alone, where it began", Ask.ear(lone, 5, 0, 1), 5, 3, 7, 2, 6);
        rows("ear 2", Ask.ear(lone, 5, 0, 2), 5, 4, 0, 3);
        due("ears", lone.ear(5, 0, NONE, NONE), 3);

        CHECKS.sentence("(HEAD itself, if nothing else is IN; a BLOCK of two: it ends where it is)");
        rows("a triangle ends where it begins", Ask.ear(Checks.of(TRIANGLE), 0, 2, 0), 0, 1, 2, 0);
        rows("a ring of eight, too", Ask.ear(Checks.of(RING), 0, 4, 0), 0, 1, 2, 3, 4, 5, 6, 7, 0);
        due("and is the one", Checks.of(RING).ear(0, 4, NONE, NONE), 1);
        rows("by a head that is not the root", Ask.ear(Checks.of(BOW), 3, 0, 0), 2, 0, 1, 2);
        rows("two", Ask.ear(Checks.of(TWO), 0, 1, 0), 0, 1);
        rows("two, from the other end", Ask.ear(Checks.of(TWO), 1, 0, 0), 1, 0);
        due("of two there is one", Checks.of(TWO).ear(0, 1, NONE, NONE), 1);
        rows("two of a star", Ask.ear(Checks.of(STAR), 1, 7, 0), 0, 7);

        CHECKS.sentence("else it goes on by the fewest LINKS of the BLOCK (not that first one)");
        RedBlueWays few = Checks.of("post a;post b;post c;post d;post e;post f;post g;link a b 1;link b c 1;link c d 1;link d e 1;"
                + "link e a 1;link b f 1;link f g 1;link g a 1;");
        rows("b f g a, not b c d e a", Ask.ear(few, 0, 3, 0), 0, 1, 5, 6, 0);
        rows("then the others", Ask.ear(few, 0, 3, 1), 0, 4, 3, 2, 1);
        due("ears", few.ear(0, 3, NONE, NONE), 2);

        CHECKS.sentence("of as few by the lowest POST first, then the next one, and so on.");
        rows("b d f a or b e c a", Ask.ear(Checks.of("post a;post b;post c;post d;post e;post f;link a b 1;link b d 1;link b e 1;"
                + "link d f 1;link e c 1;link c a 1;link f a 1;"), 0, 1, 0), 0, 1, 3, 5, 0);

        CHECKS.sentence("how many (i NONE, whatever k is); how many POSTS the i-th has, its beginning and its end, too (k NONE), else the k-th of them. NONE: as head(), no such i, k.");
        for (int k : new int[] {NONE, 0, 1, 99, -2, Integer.MIN_VALUE, Integer.MAX_VALUE}) {
            due("i NONE, k " + k, cross.ear(0, 4, NONE, k), 9);
        }
        rows("how many of each", new int[] {cross.ear(0, 4, 0, NONE), cross.ear(0, 4, 8, NONE)}, 5, 2);
        rows("k too great", new int[] {cross.ear(0, 4, 0, 5), cross.ear(0, 4, 1, 3), cross.ear(0, 4, 8, 2)}, NONE, NONE, NONE);
        rows("i too great", new int[] {cross.ear(0, 4, 9, NONE), cross.ear(0, 4, 9, 0)}, NONE, NONE);
        for (int no : NO_INDEX) {
            rows("no " + no, new int[] {cross.ear(0, 4, no, NONE), cross.ear(0, 4, no, 0), cross.ear(0, 4, 0, no),
                cross.ear(0, 4, 8, no)}, NONE, NONE, NONE, NONE);
        }
    }

    private static void links() {
        CHECKS.sentence("5: 1 in the NET LEARNT, else 0. NONE for others.");
        RedBlueWays x = Checks.of(TRIANGLE);
        rows("as told", new int[] {x.link(2, 0), x.link(2, 1), x.link(2, 2), x.link(2, 3), x.link(2, 4), x.link(2, 5)}, 2, 0, 4, 1, 0, 1);
        for (int link : new int[] {-1, -2, 3, 4, 15, 16, 17, 31, 32, 33, Integer.MIN_VALUE, Integer.MAX_VALUE}) {
            for (int what = 0; what < 6; what++) {
                due("link(" + link + ", " + what + ")", x.link(link, what), NONE);
            }
        }
        for (int what : new int[] {-1, -2, 6, 7, 32, Integer.MIN_VALUE, Integer.MAX_VALUE}) {
            due("what " + what, x.link(0, what), NONE);
        }
        x.power(0, false);
        rows("beside a post that is off: up, learnt", new int[] {x.link(0, 3), x.link(0, 5)}, 1, 1);
        x.learn();
        rows("up, not learnt", new int[] {x.link(0, 3), x.link(0, 5), x.link(1, 5)}, 1, 0, 1);
        due("no links", new RedBlueWays().link(0, 0), NONE);
        RedBlueWays y = Checks.of(CROSSED);
        rows("the 16th", new int[] {y.link(15, 0), y.link(15, 1), y.link(15, 3), y.link(15, 5), y.link(16, 0)}, 3, 7, 1, 1, NONE);
    }

    public static void main(String[] args) {
        nets();
        pieces();
        cutsAndBridges();
        blocks();
        headAndLast();
        orders();
        hops();
        ways();
        searches();
        ears();
        links();
        CHECKS.end();
    }
}
