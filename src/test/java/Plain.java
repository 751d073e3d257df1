import java.util.ArrayDeque;
import java.util.ArrayList;
import java.util.Deque;
import java.util.HashMap;
import java.util.List;
import java.util.Map;
import java.util.TreeSet;
import java.util.regex.Matcher;
import java.util.regex.Pattern;

/** The document's words taken one by one, by trying all that can be: slow, and made apart from the class. */
final class Plain {
    static final int NONE = -1;

    static final class Link {
        int a;
        int b;
        int cost;
        boolean up = true;
        int gone;

        Link(int a, int b, int cost) {
            this.a = a;
            this.b = b;
            this.cost = cost;
        }

        Link twin() {
            Link l = new Link(a, b, cost);
            l.up = up;
            l.gone = gone;
            return l;
        }

        boolean is(int x, int y) {
            return a == x && b == y || a == y && b == x;
        }
    }

    /** A net: posts, and which pairs have a link. */
    static final class G {
        final TreeSet<Integer> posts = new TreeSet<>();
        final boolean[][] tie = new boolean[8][8];

        G without(int post) {
            G g = new G();
            for (int p : posts) {
                if (p != post) {
                    g.posts.add(p);
                }
            }
            for (int a : g.posts) {
                for (int b : g.posts) {
                    g.tie[a][b] = tie[a][b];
                }
            }
            return g;
        }

        G only(int bits) {
            G g = this;
            for (int p = 0; p < 8; p++) {
                if ((bits >> p & 1) == 0) {
                    g = g.without(p);
                }
            }
            return g;
        }

        G cut(int a, int b) {
            G g = without(NONE);
            g.tie[a][b] = false;
            g.tie[b][a] = false;
            return g;
        }

        G tied(int a, int b) {
            G g = without(NONE);
            g.tie[a][b] = true;
            g.tie[b][a] = true;
            return g;
        }

        List<Integer> pieces() {
            List<Integer> found = new ArrayList<>();
            int seen = 0;
            for (int p : posts) {
                if ((seen >> p & 1) == 0) {
                    int piece = flood(p, 0);
                    seen |= piece;
                    found.add(piece);
                }
            }
            return found;
        }

        private int flood(int p, int seen) {
            int set = seen | 1 << p;
            for (int q : posts) {
                if (tie[p][q] && (set >> q & 1) == 0) {
                    set = flood(q, set);
                }
            }
            return set;
        }

        int bits() {
            int set = 0;
            for (int p : posts) {
                set |= 1 << p;
            }
            return set;
        }

        private boolean hangsTogether(int set) {
            G g = only(set);
            if (g.posts.size() != Integer.bitCount(set) || g.pieces().size() != 1) {
                return false;
            }
            for (int p : g.posts) {
                if (g.without(p).pieces().size() > 1) {
                    return false;
                }
            }
            return true;
        }

        List<Integer> blocks() {
            List<Integer> good = new ArrayList<>();
            for (int set = 3; set < 256; set++) {
                if ((set & ~bits()) == 0 && Integer.bitCount(set) >= 2 && hangsTogether(set)) {
                    good.add(set);
                }
            }
            List<Integer> great = new ArrayList<>();
            for (int set : good) {
                boolean within = false;
                for (int other : good) {
                    within |= other != set && (set & ~other) == 0;
                }
                if (!within) {
                    great.add(set);
                }
            }
            return great;
        }

        int cuts() {
            int set = 0;
            for (int p : posts) {
                if (without(p).pieces().size() > pieces().size()) {
                    set |= 1 << p;
                }
            }
            return set;
        }

        boolean isTied() {
            if (posts.size() <= 1) {
                return true;
            }
            if (pieces().size() != 1) {
                return false;
            }
            return posts.size() == 2 || cuts() == 0;
        }

        /** All ways from one post to another that meet no post twice, ends included. */
        List<List<Integer>> ways(int from, int to) {
            List<List<Integer>> found = new ArrayList<>();
            List<Integer> sofar = new ArrayList<>();
            sofar.add(from);
            extend(sofar, to, found);
            return found;
        }

        private void extend(List<Integer> sofar, int to, List<List<Integer>> found) {
            int at = sofar.get(sofar.size() - 1);
            if (at == to) {
                found.add(new ArrayList<>(sofar));
                return;
            }
            for (int q : posts) {
                if (tie[at][q] && !sofar.contains(q)) {
                    sofar.add(q);
                    extend(sofar, to, found);
                    sofar.remove(sofar.size() - 1);
                }
            }
        }
    }

    static final class State {
        int posts;
        List<Link> links = new ArrayList<>();
        boolean[] on = new boolean[8];
        int root;
        int learntPosts;
        int learntLinks;
        int sent;
        int came;
        int hops;

        State twin() {
            State s = new State();
            s.posts = posts;
            for (Link l : links) {
                s.links.add(l.twin());
            }
            s.on = on.clone();
            s.root = root;
            s.learntPosts = learntPosts;
            s.learntLinks = learntLinks;
            s.sent = sent;
            s.came = came;
            s.hops = hops;
            return s;
        }

        int onBits() {
            int set = 0;
            for (int p = 0; p < 8; p++) {
                set |= on[p] ? 1 << p : 0;
            }
            return set;
        }

        int netLinks() {
            int set = 0;
            for (int i = 0; i < links.size(); i++) {
                Link l = links.get(i);
                set |= l.up && on[l.a] && on[l.b] ? 1 << i : 0;
            }
            return set;
        }

        G graph(int postBits, int linkBits) {
            G g = new G();
            for (int p = 0; p < 8; p++) {
                if ((postBits >> p & 1) != 0) {
                    g.posts.add(p);
                }
            }
            for (int i = 0; i < links.size(); i++) {
                if ((linkBits >> i & 1) != 0) {
                    Link l = links.get(i);
                    g.tie[l.a][l.b] = true;
                    g.tie[l.b][l.a] = true;
                }
            }
            return g;
        }

        int number(int a, int b) {
            for (int i = 0; i < links.size(); i++) {
                if (links.get(i).is(a, b)) {
                    return i;
                }
            }
            return NONE;
        }
    }

    /** What a root gives to one post. */
    static final class Own {
        int block;
        int head;
        int last;
        int red;
        int blue;
        List<Integer> order;
    }

    static final class Trip {
        boolean came;
        int turn = -2;
        int end;
        List<Integer> over = new ArrayList<>();
    }

    private State s = new State();
    private Deque<State> past = new ArrayDeque<>();
    private final State[] slots = new State[3];
    private StringBuilder tape = new StringBuilder();
    private int place = NONE;
    private final Map<Integer, Own> owns = new HashMap<>();

    // ---- the tape and the text

    int feed(int a, int b, int c, int d, int e) {
        if (tape.length() > 1980) {
            return NONE;
        }
        for (int four : new int[] {a, b, c, d, e}) {
            for (int i = 3; i >= 0; i--) {
                tape.append((char) (four >>> 8 * i & 255));
            }
        }
        return tape.length();
    }

    int back(int n) {
        if (n < 0 || n > tape.length()) {
            return NONE;
        }
        tape.setLength(tape.length() - n);
        return tape.length();
    }

    int place() {
        return place;
    }

    private static final Pattern PIECES = Pattern.compile("[a-z]+|[0-9]+|[\\t\\n\\r ]+|.", Pattern.DOTALL);
    private static final Pattern TEXT = Pattern.compile("(pn;|lnni;|on;|rn;|dnn;)*");

    private static char sort(String piece) {
        switch (piece) {
            case "post": return 'p';
            case "link": return 'l';
            case "off": return 'o';
            case "root": return 'r';
            case "down": return 'd';
            case ";": return ';';
            default: break;
        }
        if (piece.matches("[a-z]{1,8}")) {
            return 'n';
        }
        return piece.matches("[0-9]{1,4}") ? 'i' : '?';
    }

    int read() {
        String text = tape.toString();
        tape = new StringBuilder();
        List<String> words = new ArrayList<>();
        List<Integer> places = new ArrayList<>();
        Matcher m = PIECES.matcher(text);
        while (m.find()) {
            if (!m.group().matches("[\\t\\n\\r ]+")) {
                words.add(m.group());
                places.add(m.start());
            }
        }
        List<int[]> faults = new ArrayList<>();
        String kinds = shapeFaults(text, words, places, faults);
        if (faults.isEmpty()) {
            State t = new State();
            meaningFaults(kinds, words, places, faults, t);
            if (faults.isEmpty()) {
                s = t;
                s.learntPosts = s.onBits();
                s.learntLinks = s.netLinks();
                past.clear();
                slots[0] = null;
                slots[1] = null;
                slots[2] = null;
                owns.clear();
                place = NONE;
                return 0;
            }
        }
        int[] first = faults.get(0);
        for (int[] f : faults) {
            if (f[0] < first[0] || f[0] == first[0] && f[1] < first[1]) {
                first = f;
            }
        }
        place = first[0];
        return first[1];
    }

    private static String shapeFaults(String text, List<String> words, List<Integer> places, List<int[]> faults) {
        StringBuilder kinds = new StringBuilder();
        int posts = 0;
        int links = 0;
        for (int i = 0; i < words.size(); i++) {
            char k = sort(words.get(i));
            kinds.append(k);
            if (i == 400 && k != '?') {
                faults.add(new int[] {places.get(i), 2});
            }
            Matcher m = TEXT.matcher(kinds);
            if (!m.matches() && !m.hitEnd()) {
                faults.add(new int[] {places.get(i), 1});
                return kinds.toString();
            }
            posts += k == 'p' ? 1 : 0;
            links += k == 'l' ? 1 : 0;
            if (k == 'p' && posts == 9 || k == 'l' && links == 17) {
                faults.add(new int[] {places.get(i), 2});
            }
        }
        if (!TEXT.matcher(kinds).matches()) {
            faults.add(new int[] {text.length(), 1});
        }
        return kinds.toString();
    }

    private static void meaningFaults(String kinds, List<String> w, List<Integer> at, List<int[]> faults, State t) {
        List<String> names = new ArrayList<>();
        for (int i = 0; i < kinds.length(); i++) {
            if (kinds.charAt(i) == 'p') {
                if (names.contains(w.get(i + 1))) {
                    faults.add(new int[] {at.get(i + 1), 3});
                } else {
                    names.add(w.get(i + 1));
                }
            }
        }
        t.posts = names.size();
        for (int p = 0; p < Math.min(8, t.posts); p++) {
            t.on[p] = true;
        }
        for (int i = 0; i < kinds.length(); i++) {
            char k = kinds.charAt(i);
            boolean two = k == 'l' || k == 'd';
            boolean one = k == 'o' || k == 'r';
            int a = two || one ? names.indexOf(w.get(i + 1)) : NONE;
            int b = two ? names.indexOf(w.get(i + 2)) : NONE;
            if ((two || one) && a < 0) {
                faults.add(new int[] {at.get(i + 1), 4});
            }
            if (two && b < 0) {
                faults.add(new int[] {at.get(i + 2), 4});
            }
            if (k == 'l') {
                int cost = Integer.parseInt(w.get(i + 3));
                if (a >= 0 && (a == b || b >= 0 && t.number(a, b) != NONE)) {
                    faults.add(new int[] {at.get(i + 2), 3});
                }
                if (cost < 1 || cost > 99) {
                    faults.add(new int[] {at.get(i + 3), 5});
                }
                if (a >= 0 && b >= 0 && a != b) {
                    t.links.add(new Link(a, b, cost));
                }
            }
            if (k == 'r' && a >= 0) {
                t.root = a;
            }
            if (k == 'o' && a >= 0) {
                t.on[a] = false;
            }
        }
        for (int i = 0; i < kinds.length(); i++) {
            if (kinds.charAt(i) == 'd') {
                int a = names.indexOf(w.get(i + 1));
                int b = names.indexOf(w.get(i + 2));
                int l = a < 0 || b < 0 ? NONE : t.number(a, b);
                if (l == NONE) {
                    faults.add(new int[] {at.get(i + 2), 5});
                } else {
                    t.links.get(l).up = false;
                }
            }
        }
    }

    // ---- by hand

    private void keep() {
        past.addLast(s.twin());
        if (past.size() > 40) {
            past.removeFirst();
        }
    }

    private boolean post(int p) {
        return p >= 0 && p < s.posts;
    }

    private boolean isLink(int l) {
        return l >= 0 && l < s.links.size();
    }

    boolean join(int link, boolean up) {
        if (!isLink(link) || s.links.get(link).up == up) {
            return false;
        }
        keep();
        s.links.get(link).up = up;
        return true;
    }

    boolean cost(int link, int cost) {
        if (!isLink(link) || cost < 1 || cost > 99 || s.links.get(link).cost == cost) {
            return false;
        }
        keep();
        s.links.get(link).cost = cost;
        return true;
    }

    boolean power(int post, boolean on) {
        if (!post(post) || s.on[post] == on) {
            return false;
        }
        keep();
        s.on[post] = on;
        return true;
    }

    int lay(int one, int two, int cost) {
        if (!post(one) || !post(two) || one == two || cost < 1 || cost > 99 || s.links.size() == 16) {
            return NONE;
        }
        if (s.number(one, two) != NONE) {
            return NONE;
        }
        keep();
        s.links.add(new Link(one, two, cost));
        return s.links.size() - 1;
    }

    boolean learn() {
        if (s.learntPosts == s.onBits() && s.learntLinks == s.netLinks()) {
            return false;
        }
        keep();
        s.learntPosts = s.onBits();
        s.learntLinks = s.netLinks();
        owns.clear();
        return true;
    }

    private boolean can(int from, int to) {
        return post(from) && post(to) && from != to && s.on[from] && s.on[to];
    }

    int send(int from, int to) {
        if (!can(from, to)) {
            return NONE;
        }
        keep();
        Trip t = trip(from, to, s.netLinks());
        s.sent++;
        s.came += t.came ? 1 : 0;
        s.hops += t.over.size();
        for (int l : t.over) {
            s.links.get(l).gone++;
        }
        return t.came ? 1 : 0;
    }

    boolean undo() {
        if (past.isEmpty()) {
            return false;
        }
        s = past.removeLast();
        owns.clear();
        return true;
    }

    boolean hold(int slot) {
        if (slot < 0 || slot > 2) {
            return false;
        }
        slots[slot] = s.twin();
        return true;
    }

    boolean restore(int slot) {
        if (slot < 0 || slot > 2 || slots[slot] == null) {
            return false;
        }
        s = slots[slot].twin();
        past.clear();
        owns.clear();
        return true;
    }

    // ---- the nets

    private G net(int which) {
        return which == 0 ? s.graph(s.onBits(), s.netLinks()) : s.graph(s.learntPosts, s.learntLinks);
    }

    private static int at(List<Integer> list, int i) {
        if (i == NONE) {
            return list.size();
        }
        return i >= 0 && i < list.size() ? list.get(i) : NONE;
    }

    int link(int link, int what) {
        if (!isLink(link) || what < 0 || what > 5) {
            return NONE;
        }
        Link l = s.links.get(link);
        return new int[] {l.a, l.b, l.cost, l.up ? 1 : 0, l.gone, s.learntLinks >> link & 1}[what];
    }

    int piece(int which, int i) {
        return which < 0 || which > 1 ? NONE : at(net(which).pieces(), i);
    }

    int block(int which, int i) {
        return which < 0 || which > 1 ? NONE : at(net(which).blocks(), i);
    }

    int cuts(int which) {
        return which < 0 || which > 1 ? NONE : net(which).cuts();
    }

    int bridges(int which) {
        if (which < 0 || which > 1) {
            return NONE;
        }
        int links = which == 0 ? s.netLinks() : s.learntLinks;
        G g = net(which);
        int set = 0;
        for (int i = 0; i < s.links.size(); i++) {
            Link l = s.links.get(i);
            if ((links >> i & 1) != 0 && g.cut(l.a, l.b).pieces().size() > g.pieces().size()) {
                set |= 1 << i;
            }
        }
        return set;
    }

    // ---- own blocks, orders and hops

    private boolean routed(int root, int post) {
        if (!post(root) || !post(post) || root == post) {
            return false;
        }
        for (int piece : net(1).pieces()) {
            if ((piece >> root & 1) != 0 && (piece >> post & 1) != 0) {
                return true;
            }
        }
        return false;
    }

    private Own own(int root, int v) {
        Own known = owns.get(root * 8 + v);
        if (known != null) {
            return known;
        }
        G g = net(1);
        Own o = new Own();
        List<List<Integer>> ways = g.ways(v, root);
        for (int block : g.blocks()) {
            boolean all = (block >> v & 1) != 0;
            for (List<Integer> way : ways) {
                all &= (block >> way.get(1) & 1) != 0;
            }
            if (all) {
                o.block = block;
            }
        }
        o.head = (o.block >> root & 1) != 0 ? root : NONE;
        for (int h = 0; h < 8 && o.head == NONE; h++) {
            if ((o.block >> h & 1) != 0 && !g.only(~o.block | 1 << h).ways(h, root).isEmpty()) {
                o.head = h;
            }
        }
        for (int p = 7; p >= 0; p--) {
            if ((o.block >> p & 1) != 0 && g.tie[p][o.head]) {
                o.last = p;
            }
        }
        List<Integer> sofar = new ArrayList<>();
        sofar.add(o.head);
        o.order = firstOrder(g, o, sofar);
        o.red = redHop(g, o, v);
        o.blue = blueHop(g, o, v);
        owns.put(root * 8 + v, o);
        return o;
    }

    /** Goes through all orders, the least ahead, and looks at each one when it is whole. */
    private static List<Integer> firstOrder(G g, Own o, List<Integer> sofar) {
        int size = Integer.bitCount(o.block);
        if (sofar.size() == size) {
            return sofar.get(size - 1) == o.last && isOrder(g, sofar) ? new ArrayList<>(sofar) : null;
        }
        for (int p = 0; p < 8; p++) {
            if ((o.block >> p & 1) != 0 && !sofar.contains(p)) {
                sofar.add(p);
                List<Integer> found = firstOrder(g, o, sofar);
                sofar.remove(sofar.size() - 1);
                if (found != null) {
                    return found;
                }
            }
        }
        return null;
    }

    private static boolean isOrder(G g, List<Integer> order) {
        for (int i = 1; i < order.size() - 1; i++) {
            boolean ahead = false;
            boolean behind = false;
            for (int k = 0; k < order.size(); k++) {
                ahead |= k < i && g.tie[order.get(i)][order.get(k)];
                behind |= k > i && g.tie[order.get(i)][order.get(k)];
            }
            if (!ahead || !behind) {
                return false;
            }
        }
        return true;
    }

    private static int redHop(G g, Own o, int v) {
        for (int p : o.order) {
            boolean barred = v == o.last && o.order.size() > 2 && p == o.head;
            if (g.tie[v][p] && !barred) {
                return p;
            }
        }
        return NONE;
    }

    private static int blueHop(G g, Own o, int v) {
        int hop = NONE;
        for (int p : o.order) {
            hop = g.tie[v][p] ? p : hop;
        }
        return v == o.last ? o.head : hop;
    }

    int head(int root, int post) {
        return routed(root, post) ? own(root, post).head : NONE;
    }

    int last(int root, int post) {
        return routed(root, post) ? own(root, post).last : NONE;
    }

    int order(int root, int post, int i) {
        return routed(root, post) ? at(own(root, post).order, i) : NONE;
    }

    private int next(int root, int post, int colour) {
        Own o = own(root, post);
        return colour == 0 ? o.red : o.blue;
    }

    int hop(int root, int post, int colour) {
        return routed(root, post) && (colour == 0 || colour == 1) ? next(root, post, colour) : NONE;
    }

    private List<Integer> wholeWay(int root, int post, int colour) {
        List<Integer> way = new ArrayList<>();
        for (int x = post; x != root;) {
            x = next(root, x, colour);
            way.add(x);
        }
        return way;
    }

    int way(int root, int post, int colour, int i) {
        return routed(root, post) && (colour == 0 || colour == 1) ? at(wholeWay(root, post, colour), i) : NONE;
    }

    int both(int root, int post) {
        if (!routed(root, post)) {
            return NONE;
        }
        int set = 0;
        for (int p : wholeWay(root, post, 0)) {
            set |= p != root && p != post && wholeWay(root, post, 1).contains(p) ? 1 << p : 0;
        }
        return set;
    }

    int dear(int root, int post, int colour) {
        if (!routed(root, post) || colour < 0 || colour > 1) {
            return NONE;
        }
        int sum = 0;
        int x = post;
        for (int y : wholeWay(root, post, colour)) {
            sum += s.links.get(s.number(x, y)).cost;
            x = y;
        }
        return sum;
    }

    // ---- the search and the ears

    private int[] number;
    private int[] parent;
    private int[] low;
    private int met;

    private void visit(G g, int x, int from) {
        number[x] = met++;
        parent[x] = from;
        low[x] = number[x];
        for (int y : g.posts) {
            if (g.tie[x][y] && number[y] == NONE) {
                visit(g, y, x);
                low[x] = Math.min(low[x], low[y]);
            }
        }
        for (int y : g.posts) {
            if (g.tie[x][y] && y != from) {
                low[x] = Math.min(low[x], number[y]);
            }
        }
    }

    int search(int root, int post, int what) {
        G g = net(1);
        if (!g.posts.contains(root) || !g.posts.contains(post) || what < 0 || what > 2) {
            return NONE;
        }
        number = new int[] {-1, -1, -1, -1, -1, -1, -1, -1};
        parent = new int[8];
        low = new int[8];
        met = 0;
        visit(g, root, -2);
        if (number[post] == NONE) {
            return NONE;
        }
        return what == 0 ? number[post] : what == 1 ? parent[post] : low[post];
    }

    private List<List<Integer>> ears(int root, int post) {
        Own o = own(root, post);
        G g = net(1).only(o.block);
        G free = g.without(NONE);
        List<Integer> in = new ArrayList<>();
        in.add(o.head);
        List<List<Integer>> ears = new ArrayList<>();
        while (true) {
            int begin = NONE;
            for (int p : in) {
                boolean some = false;
                for (int q : g.posts) {
                    some |= free.tie[p][q];
                }
                if (some) {
                    begin = p;
                    break;
                }
            }
            if (begin == NONE) {
                return ears;
            }
            List<Integer> ear = oneEar(free, in, begin);
            for (int i = 1; i < ear.size(); i++) {
                free = free.cut(ear.get(i - 1), ear.get(i));
                if (!in.contains(ear.get(i))) {
                    in.add(ear.get(i));
                }
            }
            ears.add(ear);
        }
    }

    private static List<Integer> oneEar(G free, List<Integer> in, int begin) {
        List<Integer> ear = new ArrayList<>();
        ear.add(begin);
        int first = NONE;
        for (int p = 7; p >= 0; p--) {
            first = free.tie[begin][p] ? p : first;
        }
        ear.add(first);
        if (in.contains(first)) {
            return ear;
        }
        G left = free.cut(begin, first);
        List<Integer> best = null;
        for (int goal = 0; goal < 8; goal++) {
            boolean may = in.contains(goal) && (goal != begin || in.size() == 1);
            if (!may || !left.posts.contains(goal)) {
                continue;
            }
            for (List<Integer> way : left.ways(first, goal)) {
                boolean clear = true;
                for (int i = 0; i < way.size() - 1; i++) {
                    clear &= !in.contains(way.get(i));
                }
                if (clear && (best == null || isLess(way, best))) {
                    best = way;
                }
            }
        }
        if (best != null) {
            ear.addAll(best.subList(1, best.size()));
        }
        return ear;
    }

    private static boolean isLess(List<Integer> a, List<Integer> b) {
        if (a.size() != b.size()) {
            return a.size() < b.size();
        }
        for (int i = 0; i < a.size(); i++) {
            if (!a.get(i).equals(b.get(i))) {
                return a.get(i) < b.get(i);
            }
        }
        return false;
    }

    int ear(int root, int post, int i, int k) {
        if (!routed(root, post)) {
            return NONE;
        }
        List<List<Integer>> all = ears(root, post);
        if (i == NONE) {
            return all.size();
        }
        return i >= 0 && i < all.size() ? at(all.get(i), k) : NONE;
    }

    // ---- data

    private Trip trip(int from, int to, int live) {
        Trip t = new Trip();
        int x = from;
        boolean blue = false;
        while (x != to) {
            if (!blue && !canHop(to, x, 0, live)) {
                blue = true;
                t.turn = x;
            }
            if (blue && !canHop(to, x, 1, live)) {
                break;
            }
            int y = next(to, x, blue ? 1 : 0);
            t.over.add(s.number(x, y));
            x = y;
        }
        t.end = x;
        t.came = x == to;
        return t;
    }

    private boolean canHop(int to, int x, int colour, int live) {
        return routed(to, x) && (live >> s.number(x, next(to, x, colour)) & 1) != 0;
    }

    int would(int from, int to, int what) {
        if (!can(from, to) || what < 0 || what > 3) {
            return NONE;
        }
        Trip t = trip(from, to, s.netLinks());
        return new int[] {t.came ? 1 : 0, t.over.size(), t.turn, t.end}[what];
    }

    int loss(int from, int to) {
        if (!can(from, to)) {
            return NONE;
        }
        int set = 0;
        for (int i = 0; i < 16; i++) {
            int bit = 1 << i;
            set |= (s.netLinks() & bit) != 0 && !trip(from, to, s.netLinks() & ~bit).came ? bit : 0;
        }
        return set;
    }

    int weak(int from, int to) {
        if (!can(from, to)) {
            return NONE;
        }
        int found = 0;
        int live = s.netLinks();
        for (int two = 0; two < 1 << 16; two++) {
            if (Integer.bitCount(two) == 2 && (two & ~live) == 0) {
                G g = s.graph(s.onBits(), live & ~two);
                boolean lost = !trip(from, to, live & ~two).came;
                found += lost && !g.ways(from, to).isEmpty() ? 1 : 0;
            }
        }
        return found;
    }

    int load(int link) {
        if (!isLink(link)) {
            return NONE;
        }
        int sum = 0;
        for (int a = 0; a < 8; a++) {
            for (int b = 0; b < 8; b++) {
                if (can(a, b)) {
                    for (int l : trip(a, b, s.netLinks()).over) {
                        sum += l == link ? 1 : 0;
                    }
                }
            }
        }
        return sum;
    }

    // ---- costs and new links

    private int price(List<Integer> way) {
        int sum = 0;
        for (int i = 1; i < way.size(); i++) {
            sum += s.links.get(s.number(way.get(i - 1), way.get(i))).cost;
        }
        return sum;
    }

    int cheap(int from, int to) {
        if (!can(from, to)) {
            return NONE;
        }
        int least = -2;
        for (List<Integer> way : net(0).ways(from, to)) {
            least = least == -2 ? price(way) : Math.min(least, price(way));
        }
        return least;
    }

    int pair(int from, int to) {
        if (!can(from, to)) {
            return NONE;
        }
        int least = -2;
        List<List<Integer>> ways = net(0).ways(from, to);
        for (int i = 0; i < ways.size(); i++) {
            for (int k = i + 1; k < ways.size(); k++) {
                List<Integer> shared = new ArrayList<>(ways.get(i));
                shared.retainAll(ways.get(k));
                if (shared.size() == 2) {
                    int sum = price(ways.get(i)) + price(ways.get(k));
                    least = least == -2 ? sum : Math.min(least, sum);
                }
            }
        }
        return least;
    }

    int grow(int i) {
        G g = net(0);
        for (int size = 0; size <= 4; size++) {
            List<Integer> picks = new ArrayList<>();
            if (tie(g, picks, size, 0)) {
                return at(picks, i);
            }
        }
        return -2;
    }

    /** Tries every set of so many new links, the least ahead. */
    private static boolean tie(G g, List<Integer> picks, int size, int from) {
        if (size == 0) {
            return g.isTied();
        }
        for (int code = from; code < 78; code++) {
            int a = code / 10;
            int b = code % 10;
            if (a < b && b < 8 && g.posts.contains(a) && g.posts.contains(b) && !g.tie[a][b]) {
                picks.add(code);
                if (tie(g.tied(a, b), picks, size - 1, code + 1)) {
                    return true;
                }
                picks.remove(picks.size() - 1);
            }
        }
        return false;
    }

    int count(int what) {
        switch (what) {
            case 0: return s.posts;
            case 1: return s.links.size();
            case 2: return s.onBits();
            case 3: return s.netLinks();
            case 4: return s.learntLinks;
            case 5: return s.learntPosts;
            case 6: return s.posts == 0 ? -2 : s.root;
            case 7: return s.sent;
            case 8: return tape.length();
            case 9: return past.size();
            case 10: return (slots[0] != null ? 1 : 0) + (slots[1] != null ? 1 : 0) + (slots[2] != null ? 1 : 0);
            case 11: return s.came;
            case 12: return net(0).isTied() ? 1 : 0;
            case 13: return greatestLoad();
            case 14: return clearPosts();
            case 15: return s.hops;
            default: return NONE;
        }
    }

    private int greatestLoad() {
        int most = 0;
        for (int i = 0; i < s.links.size(); i++) {
            most = Math.max(most, load(i));
        }
        return most;
    }

    private int clearPosts() {
        int set = 0;
        for (int p = 0; p < 8; p++) {
            set |= both(s.root, p) == 0 ? 1 << p : 0;
        }
        return set;
    }
}
