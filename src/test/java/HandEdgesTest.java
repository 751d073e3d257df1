import java.util.ArrayDeque;
import java.util.Deque;
import java.util.function.Supplier;

/** The edges of promises 6 to 12 and 34 to 36: what is done by hand, undone, held and counted. */
public final class HandEdgesTest {
    private static final int NONE = RedBlueWays.NONE;
    private static final int NO = 0;
    private static final int YES = 1;
    private static final int[] EXTREMES = {-1, -2, -3, -31, -32, Integer.MIN_VALUE, Integer.MIN_VALUE + 1, 8, 9, 16, 17, 31, 32, 33, 64,
        256, 65536, Integer.MAX_VALUE - 1, Integer.MAX_VALUE};

    private static final String EIGHT = "post a;post b;post c;post d;post e;post f;post g;post h;";
    private static final String TRIANGLE = "post a;post b;post c;link a b 1;link b c 2;link c a 4;";

    private static final Checks CHECKS = new Checks("HandEdgesTest");

    private interface Call {
        int of(RedBlueWays x);
    }

    private static int bit(boolean yes) {
        return yes ? YES : NO;
    }

    private static void due(String call, long got, long want) {
        CHECKS.due(call, got, want);
    }

    private static void due(String call, boolean got, boolean want) {
        CHECKS.due(call, got, want);
    }

    private static void rows(String call, int[] got, int... want) {
        CHECKS.rows(call, got, want);
    }

    /** Four posts, d off; links 0 ab 1, down; 1 bc 7; 2 cd 3; 3 ac 9. Five things done, one slot, bytes on the tape. */
    private static RedBlueWays lived() {
        RedBlueWays x = Checks.of("post a;post b;post c;post d;link a b 1;link b c 2;link c d 3;off d;root b;");
        x.join(0, false);
        x.hold(1);
        x.lay(0, 2, 9);
        x.learn();
        x.send(0, 1);
        x.cost(1, 7);
        Checks.type(x, "post");
        return x;
    }

    /** The call answers so, and all is as if it had not been made: now, and when things are undone and restored. */
    private static void refused(String name, int want, Call call) {
        RedBlueWays x = lived();
        RedBlueWays y = lived();
        due(name, call.of(x), want);
        rows(name + ": nothing happened", Ask.all(x), Ask.all(y));
        due(name + ": bytes", x.count(8), 4);
        due(name + ": undo", x.undo(), y.undo());
        rows(name + ": undone", Ask.all(x), Ask.all(y));
        due(name + ": restore", x.restore(1), y.restore(1));
        rows(name + ": restored", Ask.all(x), Ask.all(y));
    }

    private static void joins() {
        CHECKS.sentence("A LINK goes up, down: true; false, and nothing happens: it is so already, no such one.");
        refused("join(0, false), so already", NO, x -> bit(x.join(0, false)));
        refused("join(1, true), so already", NO, x -> bit(x.join(1, true)));
        refused("join(2, true), up beside a post that is off", NO, x -> bit(x.join(2, true)));
        refused("join(4, true)", NO, x -> bit(x.join(4, true)));
        refused("join(4, false)", NO, x -> bit(x.join(4, false)));
        for (int link : EXTREMES) {
            refused("join(" + link + ", true)", NO, x -> bit(x.join(link, true)));
            refused("join(" + link + ", false)", NO, x -> bit(x.join(link, false)));
        }
        RedBlueWays x = lived();
        rows("up, down, up", new int[] {bit(x.join(0, true)), bit(x.join(0, false)), bit(x.join(0, true))}, YES, YES, YES);
        due("things done", x.count(9), 8);
        due("beside a post that is off", x.join(2, false), true);
        due("no links", new RedBlueWays().join(0, true), false);
    }

    private static void costs() {
        CHECKS.sentence("A LINK has another COST (1 .. 99): true; false, and nothing happens: it is so already, no such ones.");
        refused("cost(0, 1), so already", NO, x -> bit(x.cost(0, 1)));
        refused("cost(1, 7), so already", NO, x -> bit(x.cost(1, 7)));
        refused("cost(0, 0)", NO, x -> bit(x.cost(0, 0)));
        refused("cost(0, 100)", NO, x -> bit(x.cost(0, 100)));
        refused("cost(4, 5)", NO, x -> bit(x.cost(4, 5)));
        for (int no : EXTREMES) {
            if (no < 1 || no > 99) {
                refused("cost(0, " + no + ")", NO, x -> bit(x.cost(0, no)));
            }
            refused("cost(" + no + ", 5)", NO, x -> bit(x.cost(no, 5)));
        }
        RedBlueWays x = lived();
        rows("99, 1, of a link that is down, of one beside a post that is off",
                new int[] {bit(x.cost(1, 99)), bit(x.cost(1, 1)), bit(x.cost(0, 99)), bit(x.cost(2, 98))}, YES, YES, YES, YES);
        rows("costs", new int[] {x.link(0, 2), x.link(1, 2), x.link(2, 2), x.link(3, 2)}, 99, 1, 98, 9);
        due("no links", new RedBlueWays().cost(0, 1), false);
    }

    private static void powers() {
        CHECKS.sentence("A POST goes on, off: true; false, and nothing happens: it is so already, no such one.");
        refused("power(0, true), so already", NO, x -> bit(x.power(0, true)));
        refused("power(3, false), so already", NO, x -> bit(x.power(3, false)));
        refused("power(4, true)", NO, x -> bit(x.power(4, true)));
        refused("power(4, false)", NO, x -> bit(x.power(4, false)));
        for (int post : EXTREMES) {
            refused("power(" + post + ", true)", NO, x -> bit(x.power(post, true)));
            refused("power(" + post + ", false)", NO, x -> bit(x.power(post, false)));
        }
        RedBlueWays x = Checks.of(EIGHT);
        for (int post = 7; post >= 0; post--) {
            due("power(" + post + ", false)", x.power(post, false), true);
            due("posts on", x.count(2), (1 << post) - 1);
        }
        due("the 8th on", x.power(7, true), true);
        due("posts on", x.count(2), 128);
        due("no posts", new RedBlueWays().power(0, true), false);
    }

    private static void lays() {
        CHECKS.sentence("NONE, and nothing happens: there is one of these two, up or not, 16 LINKS, no such ones.");
        refused("lay(0, 1), there is one, down", NONE, x -> x.lay(0, 1, 5));
        refused("lay(1, 0), there is one, down", NONE, x -> x.lay(1, 0, 5));
        refused("lay(1, 2), there is one, up", NONE, x -> x.lay(1, 2, 5));
        refused("lay(2, 0), there is one, laid", NONE, x -> x.lay(2, 0, 5));
        refused("lay(3, 2), there is one, beside a post that is off", NONE, x -> x.lay(3, 2, 5));
        refused("lay(3, 3)", NONE, x -> x.lay(3, 3, 5));
        refused("lay(0, 4)", NONE, x -> x.lay(0, 4, 5));
        refused("lay(4, 0)", NONE, x -> x.lay(4, 0, 5));
        refused("lay(0, 3, 0)", NONE, x -> x.lay(0, 3, 0));
        refused("lay(0, 3, 100)", NONE, x -> x.lay(0, 3, 100));
        for (int no : EXTREMES) {
            refused("lay(0, " + no + ")", NONE, x -> x.lay(0, no, 5));
            refused("lay(" + no + ", 3)", NONE, x -> x.lay(no, 3, 5));
            refused("lay(" + no + ", " + no + ")", NONE, x -> x.lay(no, no, 5));
            if (no < 1 || no > 99) {
                refused("lay(0, 3, " + no + ")", NONE, x -> x.lay(0, 3, no));
            }
        }
        due("no posts", new RedBlueWays().lay(0, 1, 5), NONE);
        RedBlueWays refused = full();
        due("a 17th", refused.lay(6, 7, 5), NONE);
        due("another 17th", refused.lay(0, 7, 99), NONE);
        rows("nothing happened", Ask.all(refused), Ask.all(full()));
        RedBlueWays full = full();
        due("undo of the 16th", full.undo(), true);
        due("a 16th again", full.lay(6, 7, 5), 15);
        due("a 17th again", full.lay(0, 7, 5), NONE);
        StringBuilder text = new StringBuilder(EIGHT);
        for (char b = 'b'; b <= 'h'; b++) {
            text.append("link a ").append(b).append(" 1;");
        }
        for (char b = 'c'; b <= 'h'; b++) {
            text.append("link b ").append(b).append(" 1;");
        }
        text.append("link c d 1;link c e 1;link c f 1;down c f;");
        due("16 told, one down", Checks.of(text.toString()).lay(6, 7, 5), NONE);

        CHECKS.sentence("A LINK of two POSTS is laid, up, with a COST (1 .. 99): its number;");
        RedBlueWays x = lived();
        rows("two, to one that is off", new int[] {x.lay(3, 0, 1), x.lay(1, 3, 99)}, 4, 5);
        rows("as laid", new int[] {x.link(4, 0), x.link(4, 1), x.link(4, 2), x.link(4, 3), x.link(4, 4), x.link(4, 5)}, 3, 0, 1, 1, 0, 0);
        rows("as laid", new int[] {x.link(5, 0), x.link(5, 1), x.link(5, 2), x.link(5, 3)}, 1, 3, 99, 1);
    }

    private static RedBlueWays full() {
        RedBlueWays x = Checks.of(EIGHT);
        int number = 0;
        for (int a = 0; a < 8 && number < 16; a++) {
            for (int b = a + 1; b < 7 && number < 16; b++) {
                x.lay(a, b, 1);
                number++;
            }
        }
        return x;
    }

    private static void learns() {
        CHECKS.sentence("The NET is LEARNT: true; false, and nothing happens: it is the NET LEARNT already (POSTS and LINKS alike).");
        refused("learn()", NO, x -> bit(x.learn()));
        due("new", new RedBlueWays().learn(), false);
        due("read", Checks.of(TRIANGLE).learn(), false);
        RedBlueWays x = Checks.of(TRIANGLE + "post d;off d;");
        x.power(3, true);
        due("posts unlike alone", x.learn(), true);
        due("again", x.learn(), false);
        x.join(0, false);
        due("links unlike alone", x.learn(), true);
        x.join(0, true);
        x.join(0, false);
        due("as it was", x.learn(), false);
        x.cost(1, 50);
        due("a cost is none of it", x.learn(), false);
        x.power(3, false);
        x.power(3, true);
        due("off and on", x.learn(), false);
        x.power(0, false);
        due("a post off", x.learn(), true);
        x.join(0, true);
        due("a link beside a post that is off", x.learn(), false);
        x.lay(0, 3, 1);
        due("a link laid there", x.learn(), false);
        x.lay(1, 3, 1);
        due("a link laid elsewhere", x.learn(), true);
    }

    private static void sends() {
        CHECKS.sentence("NONE, and nothing happens: one and the same, off, no such ones.");
        int[][] none = {{0, 0}, {3, 3}, {0, 3}, {3, 0}, {0, 4}, {4, 0}};
        for (int[] n : none) {
            refused("send(" + n[0] + ", " + n[1] + ")", NONE, x -> x.send(n[0], n[1]));
        }
        for (int no : EXTREMES) {
            refused("send(0, " + no + ")", NONE, x -> x.send(0, no));
            refused("send(" + no + ", 0)", NONE, x -> x.send(no, 0));
        }
    }

    private static final Call[] THINGS = {
        x -> bit(x.join(1, false)), x -> bit(x.join(0, true)), x -> bit(x.cost(1, 8)), x -> bit(x.power(0, false)),
        x -> bit(x.power(3, true)), x -> bit(x.lay(0, 3, 5) == 4), x -> bit(x.power(2, false) && x.learn()),
        x -> x.send(0, 1), x -> 1 - x.send(0, 1)};

    private static void undoes() {
        CHECKS.sentence("The last thing done by hand is undone: true; false: there is none");
        for (int i = 0; i < THINGS.length; i++) {
            RedBlueWays x = lived();
            RedBlueWays y = lived();
            if (i == THINGS.length - 1) {
                x.join(1, false);
                y.join(1, false);
            }
            int before = x.count(9);
            due("thing " + i, THINGS[i].of(x), YES);
            int things = x.count(9) - before;
            due("thing " + i + " is something else", java.util.Arrays.equals(Ask.all(x), Ask.all(y)), false);
            for (int k = 0; k < things; k++) {
                due("undo of thing " + i, x.undo(), true);
            }
            rows("thing " + i + " undone", Ask.all(x), Ask.all(y));
        }
        due("new", new RedBlueWays().undo(), false);
        RedBlueWays x = lived();
        for (int left = 5; left > 0; left--) {
            due("things that can be undone", x.count(9), left);
            due("undo", x.undo(), true);
        }
        due("none", x.undo(), false);
        due("none again", x.undo(), false);
        due("things that can be undone", x.count(9), 0);
        rows("as told", new int[] {x.count(1), x.link(0, 3), x.link(1, 2), x.count(7), x.count(4), x.count(5)}, 3, 1, 2, 0, 3, 7);
        due("a slot is not undone", x.count(10), 1);
        due("bytes are not undone", x.count(8), 4);
        x.join(0, false);
        due("undo of what was done behind it", x.undo(), true);
        due("and no more", x.undo(), false);

        CHECKS.sentence("(the last 40 can be)");
        deep(40, 40);
        deep(41, 40);
        deep(80, 40);
        deep(81, 40);
        deep(97, 40);
        deep(39, 39);
        upAndDown();
    }

    /** So many costs, of which so many can be undone. */
    private static void deep(int done, int kept) {
        RedBlueWays x = Checks.of("post a;post b;link a b 1;");
        for (int i = 1; i <= done; i++) {
            due("cost", x.cost(0, 1 + i), true);
            due("things that can be undone", x.count(9), Math.min(i, 40));
        }
        for (int i = 1; i <= kept; i++) {
            due("undo " + i + " of " + done, x.undo(), true);
            due("cost then", x.link(0, 2), 1 + done - i);
            due("things that can be undone", x.count(9), kept - i);
        }
        due("undo: none of " + done, x.undo(), false);
        due("cost stays", x.link(0, 2), 1 + done - kept);
    }

    /** Things done and undone by turns, so that what is kept goes round its room. */
    private static void upAndDown() {
        RedBlueWays x = Checks.of("post a;post b;link a b 1;");
        Deque<Integer> past = new ArrayDeque<>();
        int now = 1;
        int[] turns = {30, -10, 25, -40, 3, -5, 45, -20, 15, -7, 33, -50};
        for (int turn : turns) {
            for (int i = 0; i < Math.abs(turn); i++) {
                if (turn > 0) {
                    past.addLast(now);
                    if (past.size() > 40) {
                        past.removeFirst();
                    }
                    now = now % 99 + 1;
                    due("cost", x.cost(0, now), true);
                } else {
                    due("undo", x.undo(), !past.isEmpty());
                    now = past.isEmpty() ? now : past.removeLast();
                    due("cost now", x.link(0, 2), now);
                }
            }
            due("things that can be undone", x.count(9), past.size());
        }
    }

    private static void holds() {
        CHECKS.sentence("All LINKS, POSTS, the NET LEARNT and counts as they are are held in a SLOT (0 .. 2): true; false: no such one.");
        refused("hold(3)", NO, x -> bit(x.hold(3)));
        refused("hold(-1)", NO, x -> bit(x.hold(-1)));
        for (int slot : EXTREMES) {
            refused("hold(" + slot + ")", NO, x -> bit(x.hold(slot)));
        }
        for (int slot = 0; slot < 3; slot++) {
            for (int i = 0; i < THINGS.length - 1; i++) {
                RedBlueWays x = lived();
                RedBlueWays y = lived();
                due("hold(" + slot + ")", x.hold(slot), true);
                y.hold(slot);
                due("undo stays", x.count(9), 5);
                due("thing " + i, THINGS[i].of(x), YES);
                due("restore(" + slot + ")", x.restore(slot), true);
                y.restore(slot);
                rows("as held", Ask.all(x), Ask.all(y));
            }
        }
        RedBlueWays z = lived();
        z.hold(0);
        int cost = z.link(1, 2);
        z.undo();
        due("undone ahead of restore", z.link(1, 2), 2);
        z.restore(0);
        due("held as it was", z.link(1, 2), cost);
        rows("slots", new int[] {z.count(10), bit(z.hold(2)), z.count(10), bit(z.hold(2)), z.count(10)}, 2, YES, 3, YES, 3);
        due("new: hold of no posts", new RedBlueWays().hold(0), true);

        CHECKS.sentence("All is as a SLOT holds it (it stays there; nothing can be undone then): true;");
        RedBlueWays x = lived();
        for (int slot = 0; slot < 3; slot++) {
            x.cost(1, 20 + slot);
            x.hold(slot);
        }
        for (int slot : new int[] {1, 0, 2, 2, 0, 1}) {
            due("restore(" + slot + ")", x.restore(slot), true);
            due("its cost", x.link(1, 2), 20 + slot);
            due("things that can be undone", x.count(9), 0);
            due("undo", x.undo(), false);
            due("a thing done behind it", x.cost(1, 90), true);
            due("can be undone", x.undo(), true);
            due("its cost", x.link(1, 2), 20 + slot);
            x.cost(1, 91);
            x.send(0, 1);
        }
        due("slots", x.count(10), 3);
        due("the tape stays", x.count(8), 4);
        x.hold(1);
        x.cost(1, 92);
        x.restore(1);
        due("held anew", x.link(1, 2), 91);

        CHECKS.sentence("false, and nothing happens: no such one, it holds nothing.");
        refused("restore(0)", NO, y -> bit(y.restore(0)));
        refused("restore(2)", NO, y -> bit(y.restore(2)));
        refused("restore(3)", NO, y -> bit(y.restore(3)));
        for (int slot : EXTREMES) {
            refused("restore(" + slot + ")", NO, y -> bit(y.restore(slot)));
        }
        RedBlueWays n = new RedBlueWays();
        rows("new", new int[] {bit(n.restore(0)), bit(n.restore(1)), bit(n.restore(2))}, NO, NO, NO);
    }

    private static void counts() {
        CHECKS.sentence("0 POSTS, 1 LINKS, 2 POSTS on (bits), 3 LINKS of the NET (bits), 4 LINKS of the NET LEARNT (bits), 5 POSTS of it (bits)");
        RedBlueWays x = lived();
        rows("lived", new int[] {x.count(0), x.count(1), x.count(2), x.count(3), x.count(4), x.count(5)}, 4, 4, 7, 10, 10, 7);
        x.power(0, false);
        rows("a off", new int[] {x.count(0), x.count(1), x.count(2), x.count(3), x.count(4), x.count(5)}, 4, 4, 6, 2, 10, 7);

        CHECKS.sentence("6 ROOT (-2: no POSTS)");
        due("new", new RedBlueWays().count(6), -2);
        due("an empty text", Checks.of("").count(6), -2);
        due("a root that is off", Checks.of("post a;post b;root b;off b;").count(6), 1);
        due("one post", Checks.of("post a;").count(6), 0);

        CHECKS.sentence("13 the greatest LOAD (0: no LINKS)");
        due("new", new RedBlueWays().count(13), 0);
        due("no links", Checks.of(EIGHT).count(13), 0);
        due("links, none of the net", Checks.of("post a;post b;link a b 1;down a b;").count(13), 0);
        due("one link", Checks.of("post a;post b;link a b 1;").count(13), 2);

        CHECKS.sentence("14 POSTS whose RED and BLUE ways to ROOT, as LEARNT, share no POST but their ends (bits; ROOT is none)");
        due("new", new RedBlueWays().count(14), 0);
        due("one post", Checks.of("post a;").count(14), 0);
        due("two with a link: both ways are that one", Checks.of("post a;post b;link a b 1;").count(14), 2);
        due("a row: what is behind the next is none", Checks.of("post a;post b;post c;link a b 1;link b c 1;").count(14), 2);
        due("from its middle", Checks.of("post a;post b;post c;link a b 1;link b c 1;root b;").count(14), 5);
        due("one alone is none", Checks.of(TRIANGLE + "post d;").count(14), 6);
        RedBlueWays off = Checks.of(TRIANGLE + "off a;");
        due("the root was off", off.count(14), 0);
        off.power(0, true);
        due("not learnt", off.count(14), 0);
        off.learn();
        due("learnt", off.count(14), 6);
        off.power(0, false);
        off.join(1, false);
        due("as learnt", off.count(14), 6);

        CHECKS.sentence("15 hops gone by DATA sent so far. NONE for others.");
        for (int what : new int[] {-1, -2, -16, 16, 17, 31, 32, 48, 256, Integer.MIN_VALUE, Integer.MAX_VALUE}) {
            due("count(" + what + ")", x.count(what), NONE);
            due("new: count(" + what + ")", new RedBlueWays().count(what), NONE);
        }
        RedBlueWays y = Checks.of(TRIANGLE);
        y.send(0, 1);
        y.send(2, 0);
        rows("sent, came, hops", new int[] {y.count(7), y.count(11), y.count(15)}, 2, 2, 3);
        y.join(0, false);
        y.join(1, false);
        y.join(2, false);
        due("lost", y.send(0, 1), 0);
        rows("sent, came, hops", new int[] {y.count(7), y.count(11), y.count(15)}, 3, 2, 3);
    }

    /** Every question with every mixture of common and of extreme numbers: none throws, and none changes anything. */
    private static void anyNumbers(Supplier<RedBlueWays> made) {
        int[] any = {Integer.MIN_VALUE, -33, -2, -1, 0, 1, 3, 7, 8, 15, 16, 32, 99, Integer.MAX_VALUE};
        int[] before = Ask.told(made.get());
        for (int a : any) {
            for (int b : any) {
                for (int c : any) {
                    RedBlueWays x = made.get();
                    anyNumbers(x, a, b, c);
                    for (int d : any) {
                        x.way(a, b, c, d);
                        x.ear(a, b, c, d);
                    }
                    rows("asking changes nothing", Ask.told(x), before);
                }
            }
        }
    }

    private static void anyNumbers(RedBlueWays x, int a, int b, int c) {
        x.count(a);
        x.cuts(a);
        x.bridges(a);
        x.load(a);
        x.grow(a);
        x.link(a, b);
        x.piece(a, b);
        x.block(a, b);
        x.head(a, b);
        x.last(a, b);
        x.both(a, b);
        x.loss(a, b);
        x.weak(a, b);
        x.cheap(a, b);
        x.pair(a, b);
        x.order(a, b, c);
        x.hop(a, b, c);
        x.search(a, b, c);
        x.would(a, b, c);
        x.dear(a, b, c);
    }

    private static RedBlueWays behind(Call[] calls, int n) {
        RedBlueWays x = lived();
        for (int i = 0; i < n; i++) {
            calls[i].of(x);
        }
        return x;
    }

    /** Each of these calls, behind those ahead of it, on an object that was asked for all just then and on one that was not. */
    private static void alike(String name, Call... calls) {
        for (int n = 0; n < calls.length; n++) {
            RedBlueWays asked = behind(calls, n);
            RedBlueWays quiet = behind(calls, n);
            Ask.all(asked);
            due(name + ", the " + n + "-th", calls[n].of(asked), calls[n].of(quiet));
            rows(name + ", behind the " + n + "-th", Ask.all(asked), Ask.all(quiet));
        }
    }

    /** What was asked for before is nothing to what is answered behind a thing done, undone, restored or read. */
    private static void askedBefore() {
        RedBlueWays row = Checks.of("post a;post b;post c;link a b 1;link b c 1;");
        rows("a row", new int[] {row.count(12), row.bridges(0), row.cuts(0), row.grow(NONE)}, 0, 3, 2, 1);
        due("lay", row.lay(2, 0, 1), 2);
        rows("a triangle", new int[] {row.count(12), row.bridges(0), row.cuts(0), row.grow(NONE), row.block(0, 0)}, 1, 0, 0, 0, 7);
        for (int i = 0; i < THINGS.length - 1; i++) {
            alike("thing " + i + ", undo, restore, read, read", THINGS[i], x -> bit(x.undo()), x -> bit(x.restore(1)),
                    x -> Checks.read(x, " a;post b;"), x -> Checks.read(x, TRIANGLE));
        }
        RedBlueWays y = lived();
        due("read behind the bytes that were on the tape", Checks.read(y, " a;post b;"), 0);
        rows("behind reading", Ask.all(y), Ask.all(Checks.of("post a;post b;")));
    }

    private static void askings() {
        CHECKS.sentence("Nothing is promised beyond the answers and state changes described above");
        askedBefore();
        anyNumbers(HandEdgesTest::lived);
        anyNumbers(RedBlueWays::new);
        anyNumbers(HandEdgesTest::full);
        anyNumbers(() -> Checks.of(TRIANGLE + "off a;off b;off c;"));
    }

    public static void main(String[] args) {
        joins();
        costs();
        powers();
        lays();
        learns();
        sends();
        undoes();
        holds();
        counts();
        askings();
        CHECKS.end();
    }
}
