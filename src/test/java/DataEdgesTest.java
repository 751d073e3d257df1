/** The edges of chapter III and of promises 26 to 33: data, loss, weak, load, the cheapest ways, new links. */
public final class DataEdgesTest {
    private static final int NONE = RedBlueWays.NONE;
    private static final int RED = 0;
    private static final int BLUE = 1;
    private static final int[] EXTREMES = {-1, -2, -3, -32, Integer.MIN_VALUE, Integer.MIN_VALUE + 1, 8, 9, 16, 31, 32, 33, 64, 256,
        Integer.MAX_VALUE - 1, Integer.MAX_VALUE};

    private static final String EIGHT = "post a;post b;post c;post d;post e;post f;post g;post h;";
    private static final String TWO = "post a;post b;link a b 1;";
    private static final String ROW = "post a;post b;post c;link a b 1;link b c 1;";
    private static final String TRIANGLE = "post a;post b;post c;link a b 1;link b c 2;link c a 4;";
    private static final String RING = EIGHT + "link a b 99;link b c 99;link c d 99;link d e 99;link e f 99;link f g 99;"
            + "link g h 99;link h a 99;";
    /** Links 0 ab, 1 ac, 2 ad, 3 bc, 4 cd. By root a: order a d c b; red b c a, d a; blue d c b a. */
    private static final String KITE = "post a;post b;post c;post d;link a b 1;link a c 1;link a d 1;link b c 1;link c d 1;";
    /** Links 0 ab, 1 ac, 2 cd, 3 ce, 4 db, 5 eb. By root a: order a c d e b; red d c a; blue c e b a, d b a. */
    private static final String FORK = "post a;post b;post c;post d;post e;link a b 1;link a c 1;link c d 1;link c e 1;link d b 1;"
            + "link e b 1;";

    private static final Checks CHECKS = new Checks("DataEdgesTest");

    private static void due(String call, long got, long want) {
        CHECKS.due(call, got, want);
    }

    private static void rows(String call, int[] got, int... want) {
        CHECKS.rows(call, got, want);
    }

    private static int[] gone(RedBlueWays x) {
        int[] row = new int[x.count(1)];
        for (int i = 0; i < row.length; i++) {
            row[i] = x.link(i, 4);
        }
        return row;
    }

    private static RedBlueWays down(String text, int... links) {
        RedBlueWays x = Checks.of(text);
        for (int link : links) {
            x.join(link, false);
        }
        return x;
    }

    private static void goes() {
        CHECKS.sentence("DATA from s to d, both on, unlike, goes by the NET LEARNT's hops of root d: RED at first.");
        rows("d to a", Ask.would(Checks.of(KITE), 3, 0), 1, 1, -2, 0);
        rows("b to a", Ask.would(Checks.of(KITE), 1, 0), 1, 2, -2, 0);
        RedBlueWays laid = Checks.of(ROW);
        laid.lay(0, 2, 1);
        rows("not by what is not learnt", Ask.would(laid, 0, 2), 1, 2, -2, 2);
        laid.learn();
        laid.join(2, false);
        rows("a link down that is on neither hop", Ask.would(laid, 0, 2), 1, 2, -2, 2);

        CHECKS.sentence("At x the hop can be gone if there is one (d in the same PIECE, LEARNT), and its LINK is up and its POST on now.");
        rows("its link down", Ask.would(down(KITE, 2), 3, 0), 1, 3, 3, 0);
        RedBlueWays off = Checks.of(KITE);
        off.power(2, false);
        rows("its post off", Ask.would(off, 1, 0), 1, 1, 1, 0);
        off.join(3, false);
        rows("both", Ask.would(off, 1, 0), 1, 1, 1, 0);
        off.power(2, true);
        off.join(3, true);
        rows("neither", Ask.would(off, 1, 0), 1, 2, -2, 0);
        RedBlueWays apart = Checks.of("post a;post b;post c;link a b 1;down a b;");
        apart.join(0, true);
        rows("not in the same piece, learnt", Ask.would(apart, 0, 1), 0, 0, 0, 0);
        rows("in no piece with it at all", Ask.would(apart, 2, 1), 0, 0, 2, 2);
        apart.learn();
        rows("learnt", Ask.would(apart, 0, 1), 1, 1, -2, 1);
        RedBlueWays pairs = Checks.of("post a;post b;post c;post d;link a b 1;link c d 1;");
        rows("in another piece, with a link of its own", Ask.would(pairs, 2, 0), 0, 0, 2, 2);
        rows("and back", Ask.would(pairs, 1, 3), 0, 0, 1, 1);
        pairs.lay(1, 2, 1);
        rows("in one piece now, but not learnt", Ask.would(pairs, 3, 0), 0, 0, 3, 3);
        pairs.learn();
        rows("in one piece, learnt", Ask.would(pairs, 3, 0), 1, 3, -2, 0);
        RedBlueWays woken = Checks.of(TWO + "off b;");
        woken.power(1, true);
        rows("to one that was off", Ask.would(woken, 0, 1), 0, 0, 0, 0);
        rows("from one that was off", Ask.would(woken, 1, 0), 0, 0, 1, 1);
    }

    private static void turns() {
        CHECKS.sentence("If not: RED turns to BLUE there, for good;");
        rows("in the middle of the way", Ask.would(down(KITE, 1), 1, 0), 1, 3, 2, 0);
        rows("blue c b, though red c a could be gone", Ask.would(down(KITE, 2), 3, 0), 1, 3, 3, 0);
        rows("blue b a fails, though red b c a could be gone", Ask.would(down(KITE, 0, 2), 3, 0), 0, 2, 3, 1);

        CHECKS.sentence("BLUE, or where BLUE fails, too: it is LOST at x.");
        rows("blue fails later", Ask.would(down(FORK, 1, 5), 3, 0), 0, 2, 2, 4);
        rows("at once", Ask.would(down(KITE, 1, 3), 2, 0), 0, 0, 2, 2);
        rows("at once, in the middle of the way", Ask.would(down(FORK, 1, 3), 3, 0), 0, 1, 2, 2);
        rows("a bridge", Ask.would(down(TWO, 0), 0, 1), 0, 0, 0, 0);
        rows("a bridge behind another one", Ask.would(down(ROW, 1), 0, 2), 0, 1, 1, 1);

        CHECKS.sentence("At d it CAME.");
        rows("one hop", Ask.would(Checks.of(TWO), 0, 1), 1, 1, -2, 1);
        RedBlueWays ring = Checks.of(RING);
        rows("the longest red", Ask.would(ring, 1, 0), 1, 7, -2, 0);
        ring.join(7, false);
        rows("red and blue: 6 there, 6 back, 1", Ask.would(ring, 1, 0), 1, 13, 7, 0);
        due("it came", ring.send(1, 0), 1);
        rows("over each link", gone(ring), 1, 2, 2, 2, 2, 2, 2, 0);
        due("hops", ring.count(15), 13);

        CHECKS.sentence("2 the POST where it turns BLUE, even if that fails there at once (-2: it does not), 3 where it ends. NONE: as send(), no such what.");
        due("fails there at once", down(TWO, 0).would(1, 0, 2), 1);
        due("POST 0, too", down(TWO, 0).would(0, 1, 2), 0);
        due("it does not", Checks.of(TWO).would(0, 1, 2), -2);
        for (int what : new int[] {-1, -2, 4, 5, 32, Integer.MIN_VALUE, Integer.MAX_VALUE}) {
            due("what " + what, ring.would(0, 1, what), NONE);
        }
    }

    private static void sends() {
        CHECKS.sentence("1 CAME, 0 LOST; it counts on each LINK that it goes over.");
        RedBlueWays x = down(FORK, 1, 5);
        due("lost at e", x.send(3, 0), 0);
        rows("over links", gone(x), 0, 0, 1, 1, 0, 0);
        rows("sent, came, hops", new int[] {x.count(7), x.count(11), x.count(15)}, 1, 0, 2);
        RedBlueWays y = down(KITE, 1);
        due("there and back over bc", y.send(1, 0), 1);
        rows("over links", gone(y), 1, 0, 0, 2, 0);
        rows("sent, came, hops", new int[] {y.count(7), y.count(11), y.count(15)}, 1, 1, 3);
        RedBlueWays z = down(TWO, 0);
        due("lost at once", z.send(0, 1), 0);
        rows("over no link", gone(z), 0);
        rows("sent, came, hops, things done", new int[] {z.count(7), z.count(11), z.count(15), z.count(9)}, 1, 0, 0, 2);

        CHECKS.sentence("NONE, and nothing happens: one and the same, off, no such ones.");
        RedBlueWays w = Checks.of(KITE + "off d;");
        int[][] none = {{0, 0}, {3, 3}, {0, 3}, {3, 0}, {0, 4}, {4, 0}, {4, 5}};
        for (int[] n : none) {
            noneAt(w, n[0], n[1]);
        }
        for (int no : EXTREMES) {
            noneAt(w, 0, no);
            noneAt(w, no, 0);
            noneAt(w, no, no);
        }
        noneAt(new RedBlueWays(), 0, 0);
        noneAt(new RedBlueWays(), 0, 1);
        rows("nothing happened", new int[] {w.count(7), w.count(9), w.count(11), w.count(15)}, 0, 0, 0, 0);
        rows("on no link", gone(w), 0, 0, 0, 0, 0);
    }

    private static void noneAt(RedBlueWays x, int from, int to) {
        String args = "(" + from + ", " + to + ")";
        due("send" + args, x.send(from, to), NONE);
        due("loss" + args, x.loss(from, to), NONE);
        due("weak" + args, x.weak(from, to), NONE);
        due("cheap" + args, x.cheap(from, to), NONE);
        due("pair" + args, x.pair(from, to), NONE);
        for (int what = 0; what < 4; what++) {
            due("would" + args, x.would(from, to, what), NONE);
        }
    }

    private static void losses() {
        CHECKS.sentence("LOSS of s to d: LINKS of the NET each of which, were it down alone, DATA would be LOST.");
        due("one link", Checks.of(TWO).loss(0, 1), 1);
        due("no links, and lost as it is", Checks.of("post a;post b;").loss(0, 1), 0);
        due("a link that is down is none of the net", down(TWO, 0).loss(0, 1), 0);
        due("two in a row", Checks.of(ROW).loss(0, 2), 3);
        due("a link aside", Checks.of(ROW).loss(0, 1), 1);
        due("none", Checks.of(KITE).loss(1, 0), 0);
        due("lost as it is, but for one link: it would turn ahead of it", down(FORK, 1, 5).loss(3, 0), 25);
        RedBlueWays woken = Checks.of(TRIANGLE + "off c;");
        woken.power(2, true);
        due("lost as it is: all", woken.loss(0, 2), 7);
        due("from a to b: ab alone", woken.loss(0, 1), 1);
        due("the 16th link", sixteen().loss(6, 3), 32768);

        CHECKS.sentence("LOSS (bits of LINKS); NONE: as send().");
        RedBlueWays off = Checks.of(KITE + "off d;");
        rows("one and the same, off", new int[] {off.loss(0, 0), off.loss(3, 0), off.loss(0, 3), off.loss(3, 3)}, NONE, NONE, NONE, NONE);
        rows("both on", new int[] {off.loss(0, 1), off.loss(2, 0)}, 0, 0);

        CHECKS.sentence("WEAK; NONE: as send().");
        rows("one and the same, off", new int[] {off.weak(0, 0), off.weak(3, 0), off.weak(0, 3), off.weak(3, 3)}, NONE, NONE, NONE, NONE);
        rows("both on: two links down part them", new int[] {off.weak(0, 1), off.weak(2, 0)}, 0, 0);
        for (int no : EXTREMES) {
            rows("weak of " + no, new int[] {off.weak(0, no), off.weak(no, 0)}, NONE, NONE);
        }

        CHECKS.sentence("WEAK: of all two LINKS of the NET, how many, were both down, lose the DATA though s would still come to d.");
        due("no links", Checks.of("post a;post b;").weak(0, 1), 0);
        due("one link", Checks.of(TWO).weak(0, 1), 0);
        due("two that part s from d", Checks.of(TRIANGLE).weak(0, 1), 0);
        due("c to a: 1 with 3, 1 with 0", Checks.of(KITE).weak(2, 0), 2);
        due("lost as it is: ab with bc leaves a way", woken.weak(0, 2), 1);
        RedBlueWays first = Checks.of("post a;post b;post c;link c a 1;link a b 1;link b c 1;off c;");
        first.power(2, true);
        due("lost as it is: the two others leave the first link", first.weak(0, 2), 1);
        due("and from c", first.weak(2, 0), 1);
        due("lost, and no way as it is", down(ROW, 1).weak(0, 2), 0);
        due("one down already", down(FORK, 1, 5).weak(3, 0), 0);
    }

    /** Fifteen links of six posts, all with all, and the 16th to a seventh. */
    private static RedBlueWays sixteen() {
        RedBlueWays x = Checks.of("post a;post b;post c;post d;post e;post f;post g;");
        for (int a = 0; a < 6; a++) {
            for (int b = a + 1; b < 6; b++) {
                x.lay(a, b, 1);
            }
        }
        x.lay(6, 3, 1);
        x.learn();
        return x;
    }

    private static void loads() {
        CHECKS.sentence("LOAD of a LINK: how often it would be gone over, were one DATA sent from each POST that is on to each other one that is.");
        due("both ways", Checks.of(TWO).load(0), 2);
        due("down", down(TWO, 0).load(0), 0);
        due("beside a post that is off", Checks.of(TWO + "off a;").load(0), 0);
        RedBlueWays row = down(ROW, 1);
        rows("data that is lost later counts", new int[] {row.load(0), row.load(1), row.count(13)}, 3, 0, 3);
        RedBlueWays kite = down(TRIANGLE, 1);
        rows("there and back counts twice", new int[] {kite.load(0), kite.load(1), kite.load(2)}, 6, 0, 6);
        RedBlueWays laid = Checks.of("post a;post b;");
        laid.lay(0, 1, 1);
        due("not learnt", laid.load(0), 0);
        laid.learn();
        due("learnt", laid.load(0), 2);
        due("the 16th of 16: from g to six, and back", sixteen().load(15), 12);

        CHECKS.sentence("LOAD; NONE: no such LINK.");
        for (int no : EXTREMES) {
            due("load(" + no + ")", laid.load(no), NONE);
        }
        due("load(1)", laid.load(1), NONE);
        due("load(16) of 16", sixteen().load(16), NONE);
        due("no links", new RedBlueWays().load(0), NONE);
        rows("nothing was sent", new int[] {laid.count(7), laid.count(15), laid.link(0, 4)}, 0, 0, 0);
    }

    private static void prices() {
        CHECKS.sentence("CHEAP; -2: no way; NONE: as send().");
        RedBlueWays ring = Checks.of(RING);
        rows("a ring, all as dear as can be", new int[] {ring.cheap(0, 1), ring.cheap(0, 4), ring.cheap(7, 3)}, 99, 396, 396);
        ring.join(0, false);
        due("the longest way", ring.cheap(0, 1), 693);
        due("no link", Checks.of("post a;post b;").cheap(0, 1), -2);
        due("a link that is down", down(TWO, 0).cheap(0, 1), -2);
        due("a post between that is off", Checks.of(ROW + "off b;").cheap(0, 2), -2);
        due("by what is not learnt", Checks.of(TWO).cheap(1, 0), 1);
        RedBlueWays laid = Checks.of("post a;post b;");
        laid.lay(0, 1, 5);
        due("a way that is not learnt", laid.cheap(0, 1), 5);

        CHECKS.sentence("PAIR: the least COST of two ways in the NET, added, that share no POST but s and d, and no LINK.");
        RedBlueWays whole = Checks.of(RING);
        for (int from = 0; from < 8; from++) {
            for (int to = 0; to < 8; to++) {
                due("a ring, " + from + " to " + to, whole.pair(from, to), from == to ? NONE : 792);
            }
        }
        RedBlueWays between = Checks.of("post a;post b;post c;post d;link a c 1;link a d 2;link b c 3;link b d 4;");
        rows("two with no link itself", new int[] {between.pair(2, 3), between.pair(3, 2), between.pair(0, 1)}, 10, 10, 10);
        rows("the link itself is down", new int[] {down(TRIANGLE, 0).pair(0, 1), down(TRIANGLE, 0).pair(1, 0)}, -2, -2);
        due("the link itself is down, and two ways around", down(KITE, 1).pair(2, 0), 4);
        due("by the link itself and around", Checks.of(TRIANGLE).pair(0, 1), 7);
        due("all ways by one post", Checks.of("post a;post b;post c;post d;post e;link a b 1;link b c 1;link c a 1;link c d 1;"
                + "link d e 1;link e c 1;").pair(0, 4), -2);

        CHECKS.sentence("PAIR; -2: no such two; NONE: as send().");
        due("one link is no two", Checks.of(TWO).pair(0, 1), -2);
        due("no link", Checks.of("post a;post b;").pair(0, 1), -2);
        due("a ring with a link down", down(RING, 3).pair(0, 1), -2);
        due("a post of the ring off", Checks.of(RING + "off e;").pair(0, 1), -2);
        due("a bridge", sixteen().pair(6, 0), -2);

        CHECKS.sentence("The COST, as it is now, of the RED, BLUE way, as LEARNT, whether its LINKS are up or not; NONE: as way().");
        rows("red, blue", new int[] {whole.dear(0, 1, RED), whole.dear(0, 1, BLUE)}, 693, 99);
        whole.join(0, false);
        whole.power(4, false);
        rows("down, off", new int[] {whole.dear(0, 1, RED), whole.dear(0, 1, BLUE)}, 693, 99);
        whole.cost(0, 1);
        whole.cost(3, 1);
        rows("as it is now", new int[] {whole.dear(0, 1, RED), whole.dear(0, 1, BLUE)}, 595, 1);
        whole.power(1, false);
        due("of one that is off now", whole.dear(0, 1, BLUE), 1);
        whole.learn();
        due("and learnt", whole.dear(0, 1, BLUE), NONE);
        for (int no : EXTREMES) {
            rows("dear of " + no, new int[] {whole.dear(no, 0, RED), whole.dear(0, no, BLUE), whole.dear(2, 3, no)}, NONE, NONE, NONE);
        }
    }

    private static void tied() {
        CHECKS.sentence("TIED: all POSTS that are on are one, or none, or all in one BLOCK of the NET.");
        due("none at all", new RedBlueWays().count(12), 1);
        due("none that is on", Checks.of(TWO + "off a;off b;").count(12), 1);
        due("one", Checks.of("post a;").count(12), 1);
        due("one that is on", Checks.of("post a;post b;off a;").count(12), 1);
        due("two without a link", Checks.of("post a;post b;").count(12), 0);
        due("two with one", Checks.of(TWO).count(12), 1);
        due("two with one that is down", Checks.of(TWO + "down a b;").count(12), 0);
        due("a row", Checks.of(ROW).count(12), 0);
        due("a row without its end", Checks.of(ROW + "off c;").count(12), 1);
        due("a row without its middle", Checks.of(ROW + "off b;").count(12), 0);
        due("a triangle", Checks.of(TRIANGLE).count(12), 1);
        due("a triangle and one alone", Checks.of(TRIANGLE + "post d;").count(12), 0);
        due("a triangle and one that is off", Checks.of(TRIANGLE + "post d;off d;").count(12), 1);
        due("a ring of eight", Checks.of(RING).count(12), 1);
        due("by the net as it is, not as learnt", down(RING, 0).count(12), 0);
    }

    private static void grows() {
        CHECKS.sentence("GROW: the fewest new LINKS, 4 at most, each of two POSTS that are on and have no LINK in the NET, by which they would be TIED");
        rows("four alone", Ask.grown(Checks.of("post a;post b;post c;post d;")), 1, 2, 13, 23);
        rows("four that are on, alone", Ask.grown(Checks.of(EIGHT + "off a;off c;off e;off g;")), 13, 15, 37, 57);
        rows("a star of five", Ask.grown(Checks.of("post a;post b;post c;post d;post e;post f;link a b 1;link a c 1;link a d 1;"
                + "link a e 1;link a f 1;")), 12, 13, 14, 15);
        rows("a star of five, from its last", Ask.grown(Checks.of("post a;post b;post c;post d;post e;post f;link f a 1;link f b 1;"
                + "link f c 1;link f d 1;link f e 1;")), 1, 2, 3, 4);
        rows("a tree of five ends, none of its posts with more than three links", Ask.grown(Checks.of(EIGHT + "link a f 1;link b f 1;"
                + "link f g 1;link c g 1;link g h 1;link d h 1;link e h 1;")), 1, 3, 24);
        rows("a link that is down may be laid anew", Ask.grown(down(RING, 0)), 1);
        rows("though there are 16 links", Ask.grown(sixteen()), 6);
        rows("two rings of four", Ask.grown(Checks.of(EIGHT + "link a b 1;link b c 1;link c d 1;link d a 1;link e f 1;link f g 1;"
                + "link g h 1;link h e 1;")), 4, 15);

        CHECKS.sentence("each as 10 times its lesser POST and the greater; from the least on, of as few the first one the least, then the second, and so on.");
        rows("the least", Ask.grown(Checks.of("post a;post b;")), 1);
        rows("the greatest", Ask.grown(Checks.of(EIGHT + "link g a 1;link a b 1;link b c 1;link c d 1;link d e 1;link e f 1;"
                + "link f h 1;")), 67);
        rows("a row of eight", Ask.grown(down(RING, 7)), 7);
        rows("a ring of seven, and one alone", Ask.grown(Checks.of(EIGHT + "link a b 1;link b c 1;link c d 1;link d e 1;link e f 1;"
                + "link f g 1;link g a 1;")), 7, 17);

        CHECKS.sentence("GROW: how many (i NONE; TIED: 0), else the i-th; -2: it would be more than 4 (whatever i is); NONE: no such i.");
        RedBlueWays tied = Checks.of(RING);
        rows("tied", new int[] {tied.grow(NONE), tied.grow(0), tied.grow(1)}, 0, NONE, NONE);
        RedBlueWays none = new RedBlueWays();
        rows("no posts", new int[] {none.grow(NONE), none.grow(0)}, 0, NONE);
        RedBlueWays four = Checks.of("post a;post b;post c;post d;");
        rows("four", new int[] {four.grow(NONE), four.grow(3), four.grow(4)}, 4, 23, NONE);
        RedBlueWays more = Checks.of("post a;post b;post c;post d;post e;");
        RedBlueWays most = Checks.of(EIGHT);
        RedBlueWays star = Checks.of("post a;post b;post c;post d;post e;post f;post g;link a b 1;link a c 1;link a d 1;"
                + "link a e 1;link a f 1;link a g 1;");
        for (int i : EXTREMES) {
            rows("more than 4, grow(" + i + ")", new int[] {more.grow(i), most.grow(i), star.grow(i)}, -2, -2, -2);
            if (i != NONE) {
                rows("grow(" + i + ")", new int[] {tied.grow(i), none.grow(i), four.grow(i)}, NONE, NONE, NONE);
            }
        }
        for (int i = 0; i < 6; i++) {
            rows("more than 4, grow(" + i + ")", new int[] {more.grow(i), most.grow(i), star.grow(i)}, -2, -2, -2);
        }
        more.power(2, false);
        rows("one less", Ask.grown(more), 1, 3, 14, 34);
        due("nothing is laid", more.count(1), 0);
    }

    public static void main(String[] args) {
        goes();
        turns();
        sends();
        losses();
        loads();
        prices();
        tied();
        grows();
        CHECKS.end();
    }
}
