/** Long runs of calls, made by a fixed rule, that the class and the plain model must answer alike. */
public final class AlikeTest {
    private static final String[] NAMES = {"a", "b", "cc", "ddd", "e", "ffffffff", "g", "posts", "i"};

    private final Checks checks = new Checks("AlikeTest");
    private long seed;
    private RedBlueWays x;
    private Plain y;
    private int calls;

    private int pick(int below) {
        seed = seed * 6364136223846793005L + 1442695040888963407L;
        return (int) ((seed >>> 33) % below);
    }

    private boolean seldom(int one) {
        return pick(one) == 0;
    }

    /** A post or link number, now and then one that there is not. */
    private int number(int below) {
        if (seldom(25)) {
            return new int[] {-1, -2, 8, 16, 99, Integer.MIN_VALUE, Integer.MAX_VALUE, 31, 32}[pick(9)];
        }
        return pick(below);
    }

    private int index() {
        return seldom(3) ? -1 : number(8);
    }

    private String name(int posts) {
        return seldom(60) ? NAMES[pick(NAMES.length)] : NAMES[pick(Math.max(1, posts))];
    }

    private String text(boolean bad) {
        StringBuilder out = new StringBuilder();
        int posts = pick(9);
        posts = Math.max(posts, pick(9));
        for (int i = 0; i < posts; i++) {
            out.append("post ").append(NAMES[i]).append(';');
        }
        int links = posts < 2 ? 0 : pick(17);
        boolean[][] tied = new boolean[9][9];
        for (int i = 0; i < links; i++) {
            int a = pick(posts);
            int b = pick(posts);
            if (a == b || tied[a][b]) {
                continue;
            }
            tied[a][b] = true;
            tied[b][a] = true;
            out.append(" link ").append(NAMES[a]).append(' ').append(NAMES[b]).append(' ').append(1 + pick(99)).append(';');
            if (seldom(8)) {
                out.append("\tdown ").append(NAMES[b]).append(' ').append(NAMES[a]).append(" ;\n");
            }
        }
        if (posts > 0 && seldom(2)) {
            out.append("root ").append(NAMES[pick(posts)]).append(';');
        }
        if (posts > 0 && seldom(3)) {
            out.append("off\r").append(NAMES[pick(posts)]).append(';');
        }
        return bad ? spoilt(out, posts) : out.toString();
    }

    private String spoilt(StringBuilder out, int posts) {
        int lines = pick(4);
        for (int i = 0; i < lines; i++) {
            String line;
            switch (pick(6)) {
                case 0:
                    line = "post " + NAMES[pick(NAMES.length)] + ";";
                    break;
                case 1:
                case 2:
                    int cost = seldom(3) ? new int[] {0, 100, 9999, 99}[pick(4)] : 1 + pick(99);
                    line = "link " + name(posts) + " " + name(posts) + (seldom(2) ? " 00" : " ") + cost + ";";
                    break;
                case 3:
                    line = "down " + name(posts) + " " + name(posts) + ";";
                    break;
                case 4:
                    line = "off " + name(posts) + ";";
                    break;
                default:
                    line = "root " + name(posts) + ";";
                    break;
            }
            int end = out.indexOf(";", pick(out.length() + 1));
            out.insert(end < 0 ? 0 : end + 1, line);
        }
        int marks = pick(3);
        for (int i = 0; i < marks && out.length() > 0; i++) {
            int at = pick(out.length());
            switch (pick(5)) {
                case 0:
                    out.setCharAt(at, (char) pick(256));
                    break;
                case 1:
                    out.setCharAt(at, ";azZ019 \n\u00ff".charAt(pick(10)));
                    break;
                case 2:
                    out.deleteCharAt(at);
                    break;
                case 3:
                    out.insert(at, (char) (97 + pick(26)));
                    break;
                default:
                    out.setLength(at);
                    break;
            }
        }
        return out.toString();
    }

    private void same(String call, int got, int want) {
        calls++;
        checks.due(call, got, want);
    }

    private void same(String call, boolean got, boolean want) {
        calls++;
        checks.due(call, got, want);
    }

    private void tell(String text) {
        String cut = text.length() > 1900 ? text.substring(0, 1900) : text;
        String full = cut + " ".repeat((20 - cut.length() % 20) % 20);
        for (int i = 0; i < full.length(); i += 20) {
            int[] w = new int[5];
            for (int k = 0; k < 20; k++) {
                w[k / 4] = w[k / 4] << 8 | full.charAt(i + k);
            }
            same("feed", x.feed(w[0], w[1], w[2], w[3], w[4]), y.feed(w[0], w[1], w[2], w[3], w[4]));
        }
        int more = full.length() - cut.length();
        same("back", x.back(more), y.back(more));
        same("read of " + cut, x.read(), y.read());
        same("place of " + cut, x.place(), y.place());
    }

    private void hand() {
        int a = number(8);
        int b = number(8);
        int l = number(16);
        boolean yes = seldom(2);
        switch (pick(9)) {
            case 0:
            case 1:
                same("join(" + l + ", " + yes + ")", x.join(l, yes), y.join(l, yes));
                break;
            case 2:
                int c = seldom(5) ? number(101) : 1 + pick(99);
                same("cost(" + l + ", " + c + ")", x.cost(l, c), y.cost(l, c));
                break;
            case 3:
                same("power(" + a + ", " + yes + ")", x.power(a, yes), y.power(a, yes));
                break;
            case 4:
                int d = seldom(5) ? number(101) : 1 + pick(99);
                same("lay(" + a + ", " + b + ", " + d + ")", x.lay(a, b, d), y.lay(a, b, d));
                break;
            case 5:
                same("learn()", x.learn(), y.learn());
                break;
            case 6:
            case 7:
                same("send(" + a + ", " + b + ")", x.send(a, b), y.send(a, b));
                break;
            default:
                same("undo()", x.undo(), y.undo());
                break;
        }
    }

    private void keepOrRestore() {
        int slot = number(3);
        if (seldom(2)) {
            same("hold(" + slot + ")", x.hold(slot), y.hold(slot));
        } else {
            same("restore(" + slot + ")", x.restore(slot), y.restore(slot));
        }
    }

    private void askNet() {
        int which = seldom(20) ? number(4) : pick(2);
        int i = index();
        same("piece(" + which + ", " + i + ")", x.piece(which, i), y.piece(which, i));
        same("block(" + which + ", " + i + ")", x.block(which, i), y.block(which, i));
        same("cuts(" + which + ")", x.cuts(which), y.cuts(which));
        same("bridges(" + which + ")", x.bridges(which), y.bridges(which));
        int what = number(17);
        same("count(" + what + ")", x.count(what), y.count(what));
        int l = number(16);
        int of = number(7);
        same("link(" + l + ", " + of + ")", x.link(l, of), y.link(l, of));
    }

    private void askRoot() {
        int r = number(8);
        int p = number(8);
        int i = index();
        int k = index();
        int c = seldom(20) ? number(4) : pick(2);
        String rp = "(" + r + ", " + p;
        same("head" + rp + ")", x.head(r, p), y.head(r, p));
        same("last" + rp + ")", x.last(r, p), y.last(r, p));
        same("order" + rp + ", " + i + ")", x.order(r, p, i), y.order(r, p, i));
        same("hop" + rp + ", " + c + ")", x.hop(r, p, c), y.hop(r, p, c));
        same("way" + rp + ", " + c + ", " + i + ")", x.way(r, p, c, i), y.way(r, p, c, i));
        same("both" + rp + ")", x.both(r, p), y.both(r, p));
        same("search" + rp + ", " + c + ")", x.search(r, p, c), y.search(r, p, c));
        same("search" + rp + ", 2)", x.search(r, p, 2), y.search(r, p, 2));
        same("ear" + rp + ", " + i + ", " + k + ")", x.ear(r, p, i, k), y.ear(r, p, i, k));
        same("dear" + rp + ", " + c + ")", x.dear(r, p, c), y.dear(r, p, c));
    }

    private void askData() {
        int a = number(8);
        int b = number(8);
        int what = number(5);
        String ab = "(" + a + ", " + b;
        same("would" + ab + ", " + what + ")", x.would(a, b, what), y.would(a, b, what));
        same("loss" + ab + ")", x.loss(a, b), y.loss(a, b));
        same("cheap" + ab + ")", x.cheap(a, b), y.cheap(a, b));
        same("pair" + ab + ")", x.pair(a, b), y.pair(a, b));
        if (seldom(6)) {
            same("weak" + ab + ")", x.weak(a, b), y.weak(a, b));
        }
        int l = number(16);
        same("load(" + l + ")", x.load(l), y.load(l));
    }

    private void run(int from) {
        seed = from;
        pick(2);
        x = new RedBlueWays();
        y = new Plain();
        calls = 0;
        tell(text(false));
        while (calls < 480 && checks.allRight()) {
            switch (pick(12)) {
                case 0:
                case 1:
                case 2:
                case 3:
                    hand();
                    break;
                case 4:
                    if (seldom(3)) {
                        keepOrRestore();
                    }
                    break;
                case 5:
                case 6:
                    askNet();
                    break;
                case 7:
                case 8:
                    askRoot();
                    break;
                case 9:
                case 10:
                    askData();
                    break;
                default:
                    if (seldom(25)) {
                        tell(text(seldom(2)));
                    }
                    if (seldom(12)) {
                        int i = seldom(2) ? -1 : number(5);
                        same("grow(" + i + ")", x.grow(i), y.grow(i));
                    }
                    break;
            }
        }
        if (!checks.allRight()) {
            System.out.println("in the run of seed " + from + ", after " + calls + " calls");
        }
    }

    private void spoiltTexts(int from) {
        seed = from;
        pick(2);
        x = new RedBlueWays();
        y = new Plain();
        for (int i = 0; i < 8; i++) {
            tell(text(true));
            for (int what = 0; what < 7; what++) {
                same("count(" + what + ")", x.count(what), y.count(what));
            }
        }
    }

    public static void main(String[] args) {
        AlikeTest test = new AlikeTest();
        int runs = args.length > 0 ? Integer.parseInt(args[0]) : 300;
        for (int i = 1; i <= runs && test.checks.allRight(); i++) {
            test.run(i);
            test.spoiltTexts(-10 * i);
            test.spoiltTexts(-10 * i - 5);
        }
        test.checks.end();
    }
}
