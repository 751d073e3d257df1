/** Each promise of the document by cases that were worked out by hand. */
public final class PromisesTest {
    private static final int NONE = RedBlueWays.NONE;
    private static final int RED = 0;
    private static final int BLUE = 1;

    /** Links 0 ab, 1 bc, 2 ca. By root b: head b, last a, order b c a. */
    private static final String TRIANGLE = "post a;post b;post c;link a b 1;link b c 2;link c a 4;";
    /** A triangle abc, a bridge cd, e alone, f off with a link to it. */
    private static final String BOW = "post a;post b;post c;post d;post e;post f;link a b 1;link b c 1;link a c 1;"
            + "link c d 1;link e f 1;off f;";
    /** Links 0 ab, 1 ac, 2 ad, 3 bc, 4 cd: by root a, c cannot be second, for d would have nothing behind it. */
    private static final String KITE = "post a;post b;post c;post d;link a b 1;link a c 1;link a d 1;link b c 1;"
            + "link c d 1;";
    private static final String FULL = "post a;post b;post c;post d;link a b 1;link a c 1;link a d 1;link b c 1;"
            + "link b d 1;link c d 1;";

    /** A ring a c b d, in which a is not beside b. */
    private static final String RING = "post a;post b;post c;post d;link a c 1;link c b 1;link b d 1;link d a 1;";

    private static final Checks CHECKS = new Checks("PromisesTest");

    private static void due(String call, long got, long want) {
        CHECKS.due(call, got, want);
    }

    private static void due(String call, boolean got, boolean want) {
        CHECKS.due(call, got, want);
    }

    private static void rows(String call, int[] got, int... want) {
        CHECKS.rows(call, got, want);
    }

    private static void promise1() {
        RedBlueWays x = new RedBlueWays();
        int[] want = {0, 0, 0, 0, 0, 0, -2, 0, 0, 0, 0, 0, 1, 0, 0, 0};
        for (int i = 0; i < want.length; i++) {
            due("new: count(" + i + ")", x.count(i), want[i]);
        }
        due("new: place()", x.place(), NONE);
        due("new: piece(0, NONE)", x.piece(0, NONE), 0);
        due("new: block(1, NONE)", x.block(1, NONE), 0);
        due("new: learn()", x.learn(), false);
        due("new: undo()", x.undo(), false);
        due("new: grow(NONE)", x.grow(NONE), 0);
        due("NONE", RedBlueWays.NONE, -1);
    }

    private static void promise2() {
        RedBlueWays x = new RedBlueWays();
        due("feed", x.feed(0x706f7374, 0x20616263, 0x6465663b, 0x20202020, 0x20202020), 20);
        due("the highest byte first", x.read(), 0);
        due("one post", x.count(0), 1);
        for (int i = 1; i <= 100; i++) {
            due("feed " + i, x.feed(-1, -1, -1, -1, -1), 20 * i);
        }
        due("feed beyond 2,000", x.feed(0, 0, 0, 0, 0), NONE);
        due("nothing came", x.count(8), 2000);
        x.back(1);
        due("feed at 1,999", x.feed(0, 0, 0, 0, 0), NONE);
        due("nothing came at 1,999", x.count(8), 1999);
        x.back(19);
        due("feed at 1,980", x.feed(0, 0, 0, 0, 0), 2000);
        due("bytes above 127 are no token", x.read(), 1);
        due("at the first", x.place(), 0);
    }

    private static void promise3() {
        RedBlueWays x = new RedBlueWays();
        due("back(0) of nothing", x.back(0), 0);
        due("back(1) of nothing", x.back(1), NONE);
        x.feed(0, 0, 0, 0, 0);
        due("back(-1)", x.back(-1), NONE);
        due("back(least)", x.back(Integer.MIN_VALUE), NONE);
        due("back(21)", x.back(21), NONE);
        due("back(greatest)", x.back(Integer.MAX_VALUE), NONE);
        due("nothing went", x.count(8), 20);
        due("back(7)", x.back(7), 13);
        due("back(13)", x.back(13), 0);
        Checks.type(x, "post a;?");
        due("back(1)", x.back(1), 7);
        due("the last bytes went", x.read(), 0);
    }

    private static void text(String text, int number, int place) {
        RedBlueWays x = Checks.of("post q;post r;link q r 7;");
        x.power(0, false);
        x.hold(1);
        due("read of " + text, Checks.read(x, text), number);
        due("place of " + text, x.place(), place);
        due("the tape is empty", x.count(8), 0);
        if (number != 0) {
            due("links stay", x.count(1), 1);
            due("posts stay", x.count(2), 2);
            due("undo stays", x.count(9), 1);
            due("slots stay", x.count(10), 1);
        } else {
            due("nothing can be undone", x.count(9), 0);
            due("slots hold nothing", x.count(10), 0);
            due("restore", x.restore(1), false);
            due("learnt at once", x.learn(), false);
        }
    }

    private static void promise4and5() {
        text("", 0, NONE);
        text(" \t\r\n", 0, NONE);
        text("post a;", 0, NONE);
        text("post", 1, 4);
        text("post a  ", 1, 8);
        text("posta;", 1, 0);
        text("post a;;", 1, 7);
        text("post link;", 1, 5);
        text("post 1;", 1, 5);
        text("post aaaaaaaa;", 0, NONE);
        text("post aaaaaaaaa;", 1, 5);
        text("post A;", 1, 5);
        text("post a" + (char) 11 + ";", 1, 6);
        text("post a" + (char) 200 + ";", 1, 6);
        text("post a1;", 1, 6);
        text("post a;post b;link a b12;", 0, NONE);
        text("post a;post b;link a b 0012;", 0, NONE);
        text("post a;post b;link a b 00012;", 1, 23);
        text("post a;post b;link a b;", 1, 22);
        text("post a;post b;link a b 0;", 5, 23);
        text("post a;post b;link a b 99;", 0, NONE);
        text("post a;post b;link a b 100;", 5, 23);
        text("post a;post a;", 3, 12);
        text("post a;link a a 1;", 3, 14);
        text("post a;post b;link a b 1;link b a 2;", 3, 32);
        text("post a;post b;link a b 0;link b a 2;", 5, 23);
        text("link a b 1;post a;post b;", 0, NONE);
        text("link a b 1;", 4, 5);
        text("link z z 1;", 4, 5);
        text("post a;link a b 1;", 4, 14);
        text("off a;", 4, 4);
        text("root a;", 4, 5);
        text("post a;off a;off a;root a;", 0, NONE);
        text("down a b;", 4, 5);
        text("post a;down a b;", 4, 14);
        text("post a;post b;down a b;", 5, 21);
        text("post a;down a a;", 5, 14);
        text("down a b;link a b 0;post a;post b;", 5, 18);
        text("down a b;link b a 5;post a;post b;", 0, NONE);
        text("link z z 0; post", 1, 16);
    }

    private static void roomFaults() {
        text("post a;".repeat(9), 2, 56);
        text("link a b 1;".repeat(17), 2, 176);
        text("post a;".repeat(8) + "off post;", 1, 60);
        text("off a;".repeat(134), 2, 802);
        text("off a;".repeat(133) + "off", 1, 801);
        text("off a;".repeat(133) + "off ;", 1, 802);
        text("off a;".repeat(133) + "off ?", 1, 802);
        String whole = "post a;post b;link a b 1;" + "down a b;".repeat(95) + "off a;".repeat(3);
        text(whole, 0, NONE);
        text(whole + "root b;", 2, whole.length());
    }

    private static void texts() {
        RedBlueWays x = Checks.of("down b a;post a;link b a 4;post b;post c;off c;root b;off c;");
        due("link told backwards, its first post", x.link(0, 0), 1);
        due("its second post", x.link(0, 1), 0);
        due("its cost", x.link(0, 2), 4);
        due("it is down", x.link(0, 3), 0);
        due("posts on", x.count(2), 3);
        due("root", x.count(6), 1);
        x.join(0, true);
        x.send(0, 1);
        due("a data sent", x.count(7), 1);
        Checks.read(x, "post a;root a;post b;root b;root a;");
        due("the root told last", x.count(6), 0);
        due("no links", x.count(1), 0);
        due("nothing was sent on it", x.count(7), 0);
        Checks.read(x, "");
        due("no posts", x.count(0), 0);
        due("no root", x.count(6), -2);
    }

    private static void promise6() {
        RedBlueWays x = Checks.of(TRIANGLE);
        due("join: up already", x.join(0, true), false);
        due("join: no such one", x.join(3, false), false);
        due("join: below 0", x.join(-1, false), false);
        due("nothing happened", x.count(9), 0);
        due("join(0, false)", x.join(0, false), true);
        due("link(0, 3)", x.link(0, 3), 0);
        due("count(3)", x.count(3), 6);
        due("learnt as it was", x.count(4), 7);
        due("join: down already", x.join(0, false), false);
        due("join(0, true)", x.join(0, true), true);
        due("count(3)", x.count(3), 7);
        x.power(0, false);
        due("join beside a post that is off", x.join(0, false), true);
        due("one thing each", x.count(9), 4);
    }

    private static void promise7() {
        RedBlueWays x = Checks.of(TRIANGLE);
        due("cost: so already", x.cost(0, 1), false);
        due("cost 0", x.cost(0, 0), false);
        due("cost 100", x.cost(0, 100), false);
        due("cost of no link", x.cost(3, 5), false);
        due("cost of link -1", x.cost(-1, 5), false);
        due("nothing happened", x.count(9), 0);
        due("cost 99", x.cost(0, 99), true);
        due("link(0, 2)", x.link(0, 2), 99);
        due("cost 1", x.cost(2, 1), true);
        due("link(2, 2)", x.link(2, 2), 1);
        due("things done", x.count(9), 2);
        due("a cost is nothing to learn", x.learn(), false);
    }

    private static void promise8() {
        RedBlueWays x = Checks.of(TRIANGLE);
        due("power: on already", x.power(1, true), false);
        due("power: no such one", x.power(3, false), false);
        due("power: below 0", x.power(-1, true), false);
        due("nothing happened", x.count(9), 0);
        due("power(1, false)", x.power(1, false), true);
        due("count(2)", x.count(2), 5);
        due("its links are not of the net", x.count(3), 4);
        due("but up", x.link(0, 3), 1);
        due("power: off already", x.power(1, false), false);
        due("power(1, true)", x.power(1, true), true);
        due("count(3)", x.count(3), 7);
    }

    private static void promise9() {
        RedBlueWays x = Checks.of("post a;post b;post c;post d;link a b 1;down a b;off d;");
        due("lay: there is one, down", x.lay(0, 1, 5), NONE);
        due("lay: turned about", x.lay(1, 0, 5), NONE);
        due("lay: one and the same", x.lay(2, 2, 5), NONE);
        due("lay: no such post", x.lay(2, 4, 5), NONE);
        due("lay: post -1", x.lay(-1, 2, 5), NONE);
        due("lay: cost 0", x.lay(2, 3, 0), NONE);
        due("lay: cost 100", x.lay(2, 3, 100), NONE);
        due("nothing happened", x.count(9) + x.count(1), 1);
        due("lay to a post that is off", x.lay(3, 2, 99), 1);
        due("its first post", x.link(1, 0), 3);
        due("its second post", x.link(1, 1), 2);
        due("its cost", x.link(1, 2), 99);
        due("it is up", x.link(1, 3), 1);
        due("not learnt", x.link(1, 5), 0);
        due("lay", x.lay(0, 2, 1), 2);
        RedBlueWays y = Checks.of("post a;post b;post c;post d;post e;post f;post g;post h;");
        int next = 0;
        for (int a = 0; a < 8; a++) {
            for (int b = a + 1; b < 8; b++) {
                due("lay " + a + " " + b, y.lay(b, a, 3), next < 16 ? next : NONE);
                next++;
            }
        }
        due("16 links", y.count(1), 16);
        due("16 things done", y.count(9), 16);
    }

    private static void promise10() {
        RedBlueWays x = Checks.of(BOW);
        due("learnt by read()", x.learn(), false);
        x.join(4, false);
        due("a link outside of the net", x.learn(), false);
        x.power(4, false);
        due("posts unlike, links alike", x.learn(), true);
        due("posts learnt", x.count(5), 15);
        due("once", x.learn(), false);
        x.join(0, false);
        due("links unlike", x.learn(), true);
        due("links learnt", x.count(4), 14);
        due("things done", x.count(9), 5);
    }

    private static void promise11() {
        RedBlueWays x = Checks.of(TRIANGLE);
        due("send: one and the same", x.send(0, 0), NONE);
        due("send: no such one", x.send(0, 3), NONE);
        due("send: from -1", x.send(-1, 0), NONE);
        due("nothing happened", x.count(9) + x.count(7), 0);
        due("red a c b", x.send(0, 1), 1);
        rows("links gone over", new int[] {x.link(0, 4), x.link(1, 4), x.link(2, 4)}, 0, 1, 1);
        x.join(1, false);
        due("a c, blue c a b", x.send(0, 1), 1);
        rows("links gone over", new int[] {x.link(0, 4), x.link(1, 4), x.link(2, 4)}, 1, 1, 3);
        x.join(0, false);
        due("a c, blue c a, lost", x.send(0, 1), 0);
        rows("links gone over", new int[] {x.link(0, 4), x.link(1, 4), x.link(2, 4)}, 1, 1, 5);
        rows("sent, came, hops", new int[] {x.count(7), x.count(11), x.count(15)}, 3, 2, 7);
        x.power(2, false);
        due("send from one that is off", x.send(2, 0), NONE);
        due("send to one that is off", x.send(0, 2), NONE);
        due("things done", x.count(9), 6);
    }

    private static void promise12() {
        RedBlueWays x = Checks.of(TRIANGLE + "post d;");
        due("undo: nothing", x.undo(), false);
        x.join(0, false);
        x.cost(1, 50);
        x.power(3, false);
        x.learn();
        x.send(0, 1);
        x.power(3, true);
        due("lay", x.lay(3, 0, 9), 3);
        due("undo lay", x.undo(), true);
        due("its number is free", x.count(1), 3);
        due("undo power", x.undo(), true);
        due("posts on", x.count(2), 7);
        due("undo send", x.undo(), true);
        rows("counts", new int[] {x.count(7), x.count(11), x.count(15), x.link(1, 4), x.link(2, 4)}, 0, 0, 0, 0, 0);
        due("undo learn", x.undo(), true);
        rows("learnt", new int[] {x.count(4), x.count(5), x.block(1, 0)}, 7, 15, 7);
        due("undo power", x.undo(), true);
        due("posts on", x.count(2), 15);
        due("undo cost", x.undo(), true);
        due("cost", x.link(1, 2), 2);
        due("undo join", x.undo(), true);
        due("up", x.link(0, 3), 1);
        due("undo: nothing more", x.undo(), false);
        for (int i = 1; i <= 45; i++) {
            x.cost(0, 1 + i);
            due("things that can be undone", x.count(9), Math.min(i, 40));
        }
        for (int i = 0; i < 40; i++) {
            due("undo", x.undo(), true);
        }
        due("undo: the last 40 alone", x.undo(), false);
        due("what stays", x.link(0, 2), 6);
    }

    private static void undoneLinks() {
        RedBlueWays x = Checks.of("post a;post b;post c;post d;");
        x.lay(0, 1, 1);
        x.learn();
        due("head", x.head(0, 1), 0);
        due("grow", x.grow(NONE), 3);
        x.undo();
        x.undo();
        x.lay(2, 3, 1);
        due("a net not learnt", x.head(2, 3), NONE);
        due("grow", x.grow(0), 1);
        x.learn();
        due("another link of this number", x.head(0, 1), NONE);
        due("its head", x.head(2, 3), 2);
    }

    private static void promise13() {
        RedBlueWays x = Checks.of(TRIANGLE);
        x.send(2, 0);
        x.join(2, false);
        rows("link", new int[] {x.link(2, 0), x.link(2, 1), x.link(2, 2), x.link(2, 3), x.link(2, 4), x.link(2, 5)},
                2, 0, 4, 0, 1, 1);
        x.learn();
        due("not learnt any more", x.link(2, 5), 0);
        due("link 3", x.link(3, 0), NONE);
        due("link -1", x.link(-1, 0), NONE);
        due("what 6", x.link(0, 6), NONE);
        due("what -1", x.link(0, -1), NONE);
    }

    private static void promise14to17() {
        RedBlueWays x = Checks.of(BOW);
        rows("pieces", new int[] {x.piece(0, NONE), x.piece(0, 0), x.piece(0, 1), x.piece(0, 2), x.piece(0, -2)},
                2, 15, 16, NONE, NONE);
        rows("blocks", new int[] {x.block(0, NONE), x.block(0, 0), x.block(0, 1), x.block(0, 2), x.block(0, -2)},
                2, 7, 12, NONE, NONE);
        due("cuts", x.cuts(0), 4);
        due("bridges", x.bridges(0), 8);
        x.power(5, true);
        x.join(0, false);
        rows("pieces now", new int[] {x.piece(0, NONE), x.piece(0, 0), x.piece(0, 1)}, 2, 15, 48);
        rows("blocks now", new int[] {x.block(0, NONE), x.block(0, 0), x.block(0, 1), x.block(0, 2), x.block(0, 3)},
                4, 5, 6, 12, 48);
        due("cuts now", x.cuts(0), 4);
        due("bridges now", x.bridges(0), 30);
        rows("as learnt", new int[] {x.piece(1, 1), x.block(1, NONE), x.block(1, 0), x.cuts(1), x.bridges(1)},
                16, 2, 7, 4, 8);
        for (int which = -1; which <= 2; which += 3) {
            rows("no such which", new int[] {x.piece(which, NONE), x.block(which, 0), x.cuts(which), x.bridges(which)},
                    NONE, NONE, NONE, NONE);
        }
        RedBlueWays y = Checks.of("post a;post b;post c;post d;post e;post f;link a f 1;link b c 1;link c d 1;link d b 1;");
        rows("pieces by their least post", new int[] {y.piece(1, 0), y.piece(1, 1), y.piece(1, 2)}, 33, 14, 16);
        rows("blocks by their bits", new int[] {y.block(1, 0), y.block(1, 1), y.block(1, 2)}, 14, 33, NONE);
        due("no cuts", y.cuts(1), 0);
        RedBlueWays z = Checks.of("post a;post b;post c;post d;post e;link a b 1;link b c 1;link c a 1;link c d 1;"
                + "link d e 1;link e c 1;");
        rows("two blocks at one post", new int[] {z.block(0, NONE), z.block(0, 0), z.block(0, 1), z.cuts(0), z.bridges(0)},
                2, 7, 28, 4, 0);
    }

    private static void promise18and19() {
        RedBlueWays x = Checks.of(BOW);
        rows("heads by d", new int[] {x.head(3, 0), x.head(3, 1), x.head(3, 2)}, 2, 2, 3);
        rows("heads by a", new int[] {x.head(0, 1), x.head(0, 2), x.head(0, 3)}, 0, 0, 2);
        rows("lasts by d", new int[] {x.last(3, 0), x.last(3, 1), x.last(3, 2)}, 0, 0, 2);
        rows("lasts by a", new int[] {x.last(0, 1), x.last(0, 2), x.last(0, 3)}, 1, 1, 3);
        int[][] none = {{3, 3}, {3, 4}, {4, 3}, {5, 4}, {4, 5}, {6, 0}, {0, 6}, {-1, 0}, {0, -1}, {8, 0}, {0, 32}};
        for (int[] n : none) {
            String args = "(" + n[0] + ", " + n[1] + ")";
            due("head" + args, x.head(n[0], n[1]), NONE);
            due("last" + args, x.last(n[0], n[1]), NONE);
            due("order" + args, x.order(n[0], n[1], NONE), NONE);
            due("hop" + args, x.hop(n[0], n[1], RED), NONE);
            due("way" + args, x.way(n[0], n[1], RED, NONE), NONE);
            due("both" + args, x.both(n[0], n[1]), NONE);
            due("ear" + args, x.ear(n[0], n[1], NONE, NONE), NONE);
            due("dear" + args, x.dear(n[0], n[1], RED), NONE);
        }
        x.power(3, false);
        x.join(2, false);
        due("head as learnt", x.head(3, 0), 2);
        due("last as learnt", x.last(3, 0), 0);
    }

    private static void promise20() {
        rows("order of the kite", Ask.order(Checks.of(KITE), 0, 2), 0, 3, 2, 1);
        rows("the same of another post", Ask.order(Checks.of(KITE), 0, 1), 0, 3, 2, 1);
        rows("by root c", Ask.order(Checks.of(KITE), 2, 3), 2, 1, 3, 0);
        rows("order of the full", Ask.order(Checks.of(FULL), 0, 1), 0, 2, 3, 1);
        rows("order of a bridge", Ask.order(Checks.of(BOW), 3, 2), 3, 2);
        rows("order of a ring", Ask.order(Checks.of(RING), 1, 0), 1, 3, 0, 2);
        rows("order beyond it", Ask.order(Checks.of(BOW), 3, 0), 2, 1, 0);
        RedBlueWays x = Checks.of(KITE);
        due("order: i 4", x.order(0, 2, 4), NONE);
        due("order: i -2", x.order(0, 2, -2), NONE);
    }

    private static void promise21() {
        RedBlueWays x = Checks.of(KITE);
        rows("red", new int[] {x.hop(0, 1, RED), x.hop(0, 2, RED), x.hop(0, 3, RED)}, 2, 0, 0);
        rows("blue", new int[] {x.hop(0, 1, BLUE), x.hop(0, 2, BLUE), x.hop(0, 3, BLUE)}, 0, 1, 2);
        due("colour 2", x.hop(0, 1, 2), NONE);
        due("colour -1", x.hop(0, 1, -1), NONE);
        RedBlueWays y = Checks.of(BOW);
        due("red over a bridge", y.hop(3, 2, RED), 3);
        due("blue over a bridge", y.hop(3, 2, BLUE), 3);
    }

    private static void promise22and23() {
        RedBlueWays x = Checks.of(BOW);
        rows("red way", Ask.way(x, 3, 0, RED), 1, 2, 3);
        rows("blue way", Ask.way(x, 3, 0, BLUE), 2, 3);
        rows("blue way of b", Ask.way(x, 3, 1, BLUE), 0, 2, 3);
        due("way: i 3", x.way(3, 0, RED, 3), NONE);
        due("way: i -2", x.way(3, 0, RED, -2), NONE);
        due("way: colour 2", x.way(3, 0, 2, NONE), NONE);
        due("way: colour -1", x.way(3, 0, -1, 0), NONE);
        rows("both", new int[] {x.both(3, 0), x.both(3, 1), x.both(3, 2), x.both(0, 3), x.both(0, 1)}, 4, 4, 0, 4, 0);
        x.join(3, false);
        rows("as learnt", Ask.way(x, 3, 0, RED), 1, 2, 3);
    }

    private static void promise24() {
        RedBlueWays x = Checks.of(BOW);
        rows("numbers by d", new int[] {x.search(3, 3, 0), x.search(3, 2, 0), x.search(3, 0, 0), x.search(3, 1, 0)}, 0, 1, 2, 3);
        rows("parents", new int[] {x.search(3, 3, 1), x.search(3, 2, 1), x.search(3, 0, 1), x.search(3, 1, 1)}, -2, 3, 2, 0);
        rows("lows", new int[] {x.search(3, 3, 2), x.search(3, 2, 2), x.search(3, 0, 2), x.search(3, 1, 2)}, 0, 1, 1, 1);
        rows("one alone", new int[] {x.search(4, 4, 0), x.search(4, 4, 1), x.search(4, 4, 2)}, 0, -2, 0);
        rows("none", new int[] {x.search(3, 4, 0), x.search(4, 3, 1), x.search(5, 5, 0), x.search(0, 6, 0), x.search(6, 0, 0),
            x.search(-1, 0, 0), x.search(0, -1, 0), x.search(0, 0, 3), x.search(0, 0, -1)}, -1, -1, -1, -1, -1, -1, -1, -1, -1);
        x.power(5, true);
        due("off when learnt", x.search(5, 5, 0), NONE);
        x.power(0, false);
        due("on when learnt", x.search(0, 0, 1), -2);
        RedBlueWays y = Checks.of(KITE);
        rows("kite", new int[] {y.search(0, 1, 0), y.search(0, 2, 0), y.search(0, 3, 0), y.search(0, 3, 1), y.search(0, 3, 2),
            y.search(0, 2, 2), y.search(0, 1, 2)}, 1, 2, 3, 2, 0, 0, 0);
    }

    private static void promise25() {
        RedBlueWays x = Checks.of(KITE);
        due("ears", x.ear(0, 2, NONE, 77), 2);
        rows("ear 0", Ask.ear(x, 0, 2, 0), 0, 1, 2, 0);
        rows("ear 1", Ask.ear(x, 0, 2, 1), 0, 3, 2);
        rows("none", new int[] {x.ear(0, 2, 2, NONE), x.ear(0, 2, -2, 0), x.ear(0, 2, 0, 4), x.ear(0, 2, 0, -2)},
                NONE, NONE, NONE, NONE);
        RedBlueWays y = Checks.of(FULL);
        due("ears of the full", y.ear(0, 3, NONE, NONE), 3);
        rows("its ear 0", Ask.ear(y, 0, 3, 0), 0, 1, 2, 0);
        rows("its ear 1", Ask.ear(y, 0, 3, 1), 0, 3, 1);
        rows("its ear 2", Ask.ear(y, 0, 3, 2), 2, 3);
        rows("ear of a ring", Ask.ear(Checks.of(RING), 1, 0, 0), 1, 2, 0, 3, 1);
        RedBlueWays z = Checks.of(BOW);
        due("ears of a bridge", z.ear(0, 3, NONE, NONE), 1);
        rows("its ear", Ask.ear(z, 0, 3, 0), 2, 3);
    }

    private static void promise26() {
        RedBlueWays x = Checks.of(TRIANGLE);
        rows("red", Ask.would(x, 0, 1), 1, 2, -2, 1);
        x.join(1, false);
        rows("turns at c", Ask.would(x, 0, 1), 1, 3, 2, 1);
        x.join(0, false);
        rows("lost at a", Ask.would(x, 0, 1), 0, 2, 2, 0);
        due("what 4", x.would(0, 1, 4), NONE);
        due("what -1", x.would(0, 1, -1), NONE);
        due("one and the same", x.would(1, 1, 0), NONE);
        due("no such one", x.would(0, 3, 0), NONE);
        rows("nothing is sent", new int[] {x.count(7), x.count(15), x.count(9), x.link(2, 4)}, 0, 0, 2, 0);
        x.undo();
        x.undo();
        x.power(2, false);
        rows("the next post is off", Ask.would(x, 0, 1), 1, 1, 0, 1);
        due("to one that is off", x.would(0, 2, 0), NONE);
        RedBlueWays y = Checks.of(BOW);
        y.power(5, true);
        rows("not learnt", Ask.would(y, 4, 5), 0, 0, 4, 4);
    }

    private static void promise27and28() {
        RedBlueWays x = Checks.of(TRIANGLE);
        due("loss", x.loss(0, 1), 0);
        due("weak", x.weak(0, 1), 0);
        RedBlueWays y = Checks.of(BOW);
        due("loss of a bridge", y.loss(0, 3), 8);
        y.power(5, true);
        due("lost as it is: each link of the net", y.loss(4, 5), 31);
        due("weak of a bridge not learnt", y.weak(4, 5), 6);
        y.join(0, false);
        due("but those of the net alone", y.loss(4, 5), 30);
        RedBlueWays z = Checks.of(KITE);
        due("loss in the kite", z.loss(2, 0), 0);
        due("weak in the kite: 1 with 3, 1 with 0", z.weak(2, 0), 2);
        z.join(1, false);
        due("loss without link 1", z.loss(2, 0), 9);
        z.power(3, false);
        int[][] none = {{0, 0}, {0, 3}, {3, 0}, {0, 4}, {4, 0}, {-1, 0}, {0, -1}};
        for (int[] n : none) {
            String args = "(" + n[0] + ", " + n[1] + ")";
            due("loss" + args, z.loss(n[0], n[1]), NONE);
            due("weak" + args, z.weak(n[0], n[1]), NONE);
            due("cheap" + args, z.cheap(n[0], n[1]), NONE);
            due("pair" + args, z.pair(n[0], n[1]), NONE);
            due("would" + args, z.would(n[0], n[1], 0), NONE);
            due("send" + args, z.send(n[0], n[1]), NONE);
        }
    }

    private static void promise29() {
        RedBlueWays x = Checks.of(TRIANGLE);
        rows("loads", new int[] {x.load(0), x.load(1), x.load(2), x.count(13)}, 1, 5, 3, 5);
        x.join(1, false);
        rows("loads without bc", new int[] {x.load(0), x.load(1), x.load(2), x.count(13)}, 6, 0, 6, 6);
        x.undo();
        x.power(2, false);
        rows("loads without c", new int[] {x.load(0), x.load(1), x.load(2), x.count(13)}, 2, 0, 0, 2);
        due("load(3)", x.load(3), NONE);
        due("load(-1)", x.load(-1), NONE);
        due("no data is sent", x.count(7), 0);
    }

    private static void promise30() {
        RedBlueWays x = Checks.of(TRIANGLE);
        due("cheap by b", x.cheap(2, 0), 3);
        due("and back", x.cheap(0, 2), 3);
        x.cost(0, 99);
        due("cheap by the link itself", x.cheap(2, 0), 4);
        x.join(2, false);
        due("dearer", x.cheap(2, 0), 101);
        x.power(1, false);
        due("no way", x.cheap(2, 0), -2);
    }

    private static void promise31() {
        RedBlueWays x = Checks.of(TRIANGLE);
        due("pair", x.pair(0, 2), 7);
        x.join(0, false);
        due("no such two", x.pair(0, 2), -2);
        due("two and one link", Checks.of("post a;post b;link a b 5;").pair(0, 1), -2);
        RedBlueWays y = Checks.of("post a;post b;post c;post d;link a b 1;link b c 1;link c d 1;link a c 5;link b d 5;");
        due("the cheapest is of no two", y.cheap(0, 3), 3);
        due("pair", y.pair(0, 3), 12);
        y.lay(0, 3, 9);
        due("with the link itself, once", y.pair(0, 3), 12);
        y.cost(5, 8);
        due("when it is cheaper", y.pair(0, 3), 11);
        RedBlueWays z = Checks.of("post a;post b;post c;post d;post e;link a b 1;link b c 1;link c a 1;link c d 1;"
                + "link d e 1;link e c 1;");
        due("all ways share c", z.pair(0, 4), -2);
    }

    private static void promise32() {
        RedBlueWays x = Checks.of(TRIANGLE);
        due("dear red", x.dear(0, 2, RED), 4);
        due("dear blue", x.dear(0, 2, BLUE), 3);
        x.cost(0, 50);
        x.join(0, false);
        due("as it costs now, though it is down", x.dear(0, 2, BLUE), 52);
        due("colour 2", x.dear(0, 2, 2), NONE);
        due("colour -1", x.dear(0, 2, -1), NONE);
        due("one and the same", x.dear(0, 0, RED), NONE);
        RedBlueWays y = Checks.of(BOW);
        due("over two blocks", y.dear(3, 0, RED), 3);
    }

    private static void promise33() {
        rows("tied", Ask.grown(Checks.of(TRIANGLE)));
        rows("one post", Ask.grown(Checks.of("post a;")));
        rows("two posts", Ask.grown(Checks.of("post a;post b;")), 1);
        rows("two posts with a link", Ask.grown(Checks.of("post a;post b;link a b 1;")));
        rows("a row of three", Ask.grown(Checks.of("post a;post b;post c;link a b 1;link b c 1;")), 2);
        rows("a star of three", Ask.grown(Checks.of("post a;post b;post c;post d;link a b 1;link a c 1;link a d 1;")), 12, 13);
        rows("two rows of three", Ask.grown(Checks.of("post a;post b;post c;post d;post e;post f;link a b 1;link b c 1;"
                + "link d e 1;link e f 1;")), 3, 25);
        rows("four alone", Ask.grown(Checks.of("post a;post b;post c;post d;")), 1, 2, 13, 23);
        RedBlueWays x = Checks.of("post a;post b;post c;post d;post e;");
        for (int i = -5; i < 7; i++) {
            due("five alone: grow(" + i + ")", x.grow(i), -2);
        }
        RedBlueWays y = Checks.of("post a;post b;post c;link a b 1;link b c 1;link c a 1;down a c;post d;off d;");
        rows("a link that is down, a post that is off", Ask.grown(y), 2);
        due("grow(1)", y.grow(1), NONE);
        due("grow(-2)", y.grow(-2), NONE);
        y.power(3, true);
        rows("on again", Ask.grown(y), 3, 23);
        y.join(2, true);
        rows("tied but for d", Ask.grown(y), 3, 13);
    }

    private static void promise34and35() {
        RedBlueWays x = Checks.of(TRIANGLE);
        due("hold(3)", x.hold(3), false);
        due("hold(-1)", x.hold(-1), false);
        due("restore(3)", x.restore(3), false);
        due("restore(-1)", x.restore(-1), false);
        due("restore of nothing", x.restore(2), false);
        x.send(0, 1);
        due("hold(2)", x.hold(2), true);
        due("undo stays", x.count(9), 1);
        x.join(0, false);
        x.cost(1, 77);
        x.power(2, false);
        x.learn();
        x.send(0, 1);
        due("hold(0)", x.hold(0), true);
        x.feed(0, 0, 0, 0, 0);
        due("slots", x.count(10), 2);
        due("restore of nothing", x.restore(1), false);
        due("nothing happened", x.count(9), 6);
        due("restore(2)", x.restore(2), true);
        rows("all as held", new int[] {x.count(2), x.count(3), x.count(4), x.count(5), x.count(7), x.count(15), x.link(1, 2),
            x.link(1, 4), x.head(2, 0)}, 7, 7, 7, 7, 1, 2, 2, 1, 2);
        due("nothing can be undone", x.undo(), false);
        due("the tape stays", x.count(8), 20);
        x.lay(0, 1, 1);
        x.join(2, false);
        due("it stays there", x.restore(2), true);
        due("as held", x.count(3), 7);
        due("restore(0)", x.restore(0), true);
        rows("the other one", new int[] {x.count(2), x.count(4), x.count(7), x.count(11), x.link(1, 2), x.head(1, 0)},
                3, 0, 2, 1, 77, NONE);
        due("hold anew", x.hold(2), true);
        due("slots", x.count(10), 2);
        Checks.read(x, "post");
        due("a fault", x.count(10), 2);
        Checks.read(x, "post a;");
        due("a text", x.count(10), 0);
        due("slots hold nothing", x.restore(2), false);
        RedBlueWays y = new RedBlueWays();
        due("hold of no posts", y.hold(1), true);
        due("that is something", y.count(10), 1);
        due("restore of it", y.restore(1), true);
    }

    private static void promise36() {
        RedBlueWays x = Checks.of(BOW + "root d;");
        x.join(0, false);
        x.hold(1);
        x.feed(0, 0, 0, 0, 0);
        due("red a b fails, blue a c d", x.send(0, 3), 1);
        int[] want = {6, 5, 31, 14, 15, 31, 3, 1, 20, 2, 1, 1, 0};
        for (int i = 0; i < want.length; i++) {
            due("count(" + i + ")", x.count(i), want[i]);
        }
        due("count(14)", x.count(14), 4);
        due("count(15)", x.count(15), 2);
        due("count(16)", x.count(16), NONE);
        due("count(-1)", x.count(-1), NONE);
        due("no links", Checks.of("post a;post b;").count(13), 0);
        due("two without a link are not tied", Checks.of("post a;post b;").count(12), 0);
        due("two with a link are", Checks.of("post a;post b;link a b 1;").count(12), 1);
        due("the root is none", Checks.of(TRIANGLE + "root b;").count(14), 5);
        RedBlueWays y = Checks.of(TRIANGLE + "off a;");
        due("the root was off when learnt", y.count(14), 0);
        due("tied without it", y.count(12), 1);
        y.power(0, true);
        due("and not on the way", y.count(14), 0);
        y.learn();
        due("learnt", y.count(14), 6);
        y.join(0, false);
        due("a row is not tied", y.count(12), 0);
    }

    public static void main(String[] args) {
        promise1();
        promise2();
        promise3();
        promise4and5();
        roomFaults();
        texts();
        promise6();
        promise7();
        promise8();
        promise9();
        promise10();
        promise11();
        promise12();
        undoneLinks();
        promise13();
        promise14to17();
        promise18and19();
        promise20();
        promise21();
        promise22and23();
        promise24();
        promise25();
        promise26();
        promise27and28();
        promise29();
        promise30();
        promise31();
        promise32();
        promise33();
        promise34and35();
        promise36();
        CHECKS.end();
    }
}
