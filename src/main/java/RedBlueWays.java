/**
 * A net of posts and links on which each post has a red way and a blue way to each other one.
 * Sets of posts and of links are kept as bits throughout: bit 0 is number 0, bit 1 number 1, and so on.
 */
public final class RedBlueWays {
    public static final int NONE = -1;

    private static final int OTHER = -2;
    private static final int POSTS = 8;
    private static final int LINKS = 16;
    private static final int DEAREST = 99;
    private static final int SLOTS = 3;
    private static final int RED = 0;
    private static final int BLUE = 1;

    private final Reader reader = new Reader();
    private final State state = new State();
    private final History history = new History();
    private final State[] slots = new State[SLOTS];
    private int held;
    private final Net present = new Net();
    private boolean presentStale;
    private final Net learnt = new Net();
    private boolean learntStale;
    private final Tables tables = new Tables();
    private final Walk walk = new Walk();
    private final Ears ears = new Ears();
    private final Trip trip = new Trip();
    private final int[] loads = new int[LINKS];
    private final Prices prices = new Prices();
    private final Grower grower = new Grower();

    public RedBlueWays() {
        for (int i = 0; i < SLOTS; i++) {
            slots[i] = new State();
        }
    }

    public int feed(int a, int b, int c, int d, int e) {
        if (!reader.hasRoom()) {
            return NONE;
        }
        reader.append(a);
        reader.append(b);
        reader.append(c);
        reader.append(d);
        reader.append(e);
        return reader.bytes;
    }

    public int back(int n) {
        if (n < 0 || n > reader.bytes) {
            return NONE;
        }
        reader.bytes -= n;
        return reader.bytes;
    }

    public int read() {
        int fault = reader.parse();
        if (fault == 0) {
            state.copy(reader.draft);
            history.forget();
            held = 0;
            allChanged();
        }
        return fault;
    }

    public int place() {
        return reader.fault;
    }

    public boolean join(int link, boolean up) {
        if (!isLink(link) || has(state.up, link) == up) {
            return false;
        }
        history.keep(state);
        state.up ^= 1 << link;
        presentStale = true;
        return true;
    }

    public boolean cost(int link, int cost) {
        if (!isLink(link) || !isCost(cost) || state.price[link] == cost) {
            return false;
        }
        history.keep(state);
        state.price[link] = cost;
        return true;
    }

    public boolean power(int post, boolean on) {
        if (!isPost(post) || has(state.on, post) == on) {
            return false;
        }
        history.keep(state);
        state.on ^= 1 << post;
        presentStale = true;
        return true;
    }

    public int lay(int one, int two, int cost) {
        if (!isPost(one) || !isPost(two) || one == two || !isCost(cost)) {
            return NONE;
        }
        if (state.links >= LINKS || state.between(one, two) != NONE) {
            return NONE;
        }
        history.keep(state);
        state.add(one, two, cost);
        presentStale = true;
        return state.links - 1;
    }

    public boolean learn() {
        int live = state.live();
        if (state.learntPosts == state.on && state.learntLinks == live) {
            return false;
        }
        history.keep(state);
        state.learntPosts = state.on;
        state.learntLinks = live;
        learntStale = true;
        return true;
    }

    public int send(int from, int to) {
        if (!canGo(from, to)) {
            return NONE;
        }
        history.keep(state);
        trip.run(tables, from, to, state.live());
        trip.tally(state.gone);
        state.sent++;
        state.hops += trip.hops;
        if (trip.came) {
            state.arrived++;
        }
        return trip.came ? 1 : 0;
    }

    public boolean undo() {
        if (!history.bring(state)) {
            return false;
        }
        allChanged();
        return true;
    }

    public int link(int link, int what) {
        if (!isLink(link)) {
            return NONE;
        }
        switch (what) {
            case 0:
                return state.one[link];
            case 1:
                return state.two[link];
            case 2:
                return state.price[link];
            case 3:
                return has(state.up, link) ? 1 : 0;
            case 4:
                return state.gone[link];
            case 5:
                return has(state.learntLinks, link) ? 1 : 0;
            default:
                return NONE;
        }
    }

    public int piece(int which, int i) {
        return isNet(which) ? netOf(which).pieceAt(i) : NONE;
    }

    public int block(int which, int i) {
        return isNet(which) ? netOf(which).blockAt(i) : NONE;
    }

    public int cuts(int which) {
        return isNet(which) ? netOf(which).cutPosts() : NONE;
    }

    public int bridges(int which) {
        return isNet(which) ? netOf(which).bridgeLinks() : NONE;
    }

    public int head(int root, int post) {
        return hasWay(root, post) ? tables.headOf(root, post) : NONE;
    }

    public int last(int root, int post) {
        if (!hasWay(root, post)) {
            return NONE;
        }
        return learnt.lastOf(tables.ownOf(root, post), tables.headOf(root, post));
    }

    public int order(int root, int post, int i) {
        if (!hasWay(root, post)) {
            return NONE;
        }
        tables.arrange(learnt, tables.ownOf(root, post), tables.headOf(root, post));
        if (i == NONE) {
            return tables.length;
        }
        return i >= 0 && i < tables.length ? tables.row[i] : NONE;
    }

    public int hop(int root, int post, int colour) {
        return isColour(colour) && hasWay(root, post) ? tables.next(root, post, colour) : NONE;
    }

    public int way(int root, int post, int colour, int i) {
        return isColour(colour) && hasWay(root, post) ? tables.along(root, post, colour, i) : NONE;
    }

    public int both(int root, int post) {
        return hasWay(root, post) ? tables.shared(root, post) : NONE;
    }

    public int search(int root, int post, int what) {
        if (!isPost(root) || !isPost(post) || !has(learntNet().whole[root], post)) {
            return NONE;
        }
        walk.from(learnt, root);
        switch (what) {
            case 0:
                return walk.number[post];
            case 1:
                return walk.parent[post];
            case 2:
                return walk.low[post];
            default:
                return NONE;
        }
    }

    public int ear(int root, int post, int i, int k) {
        if (!hasWay(root, post)) {
            return NONE;
        }
        ears.trace(learnt, tables.ownOf(root, post), tables.headOf(root, post));
        return i == NONE ? ears.ears : ears.at(i, k);
    }

    public int would(int from, int to, int what) {
        if (!canGo(from, to)) {
            return NONE;
        }
        trip.run(tables, from, to, state.live());
        switch (what) {
            case 0:
                return trip.came ? 1 : 0;
            case 1:
                return trip.hops;
            case 2:
                return trip.turn;
            case 3:
                return trip.end;
            default:
                return NONE;
        }
    }

    public int loss(int from, int to) {
        if (!canGo(from, to)) {
            return NONE;
        }
        int live = state.live();
        int lost = 0;
        for (int i = 0; i < LINKS; i++) {
            if (has(live, i) && !comes(from, to, live & ~(1 << i))) {
                lost |= 1 << i;
            }
        }
        return lost;
    }

    public int weak(int from, int to) {
        if (!canGo(from, to)) {
            return NONE;
        }
        int live = state.live();
        int found = 0;
        for (int i = 0; i < LINKS; i++) {
            for (int k = i + 1; k < LINKS; k++) {
                int left = live & ~(1 << i | 1 << k);
                boolean two = has(live, i) && has(live, k);
                if (two && !comes(from, to, left) && state.joined(from, to, left)) {
                    found++;
                }
            }
        }
        return found;
    }

    public int load(int link) {
        if (!isLink(link)) {
            return NONE;
        }
        fillLoads();
        return loads[link];
    }

    public int cheap(int from, int to) {
        if (!canSend(from, to)) {
            return NONE;
        }
        int least = prices.cheapest(state, state.live(), from, to, state.on);
        return least >= Prices.FAR ? OTHER : least;
    }

    public int pair(int from, int to) {
        if (!canSend(from, to)) {
            return NONE;
        }
        int least = prices.cheapestTwo(state, from, to);
        return least >= Prices.FAR ? OTHER : least;
    }

    public int dear(int root, int post, int colour) {
        return isColour(colour) && hasWay(root, post) ? tables.priceAlong(state, root, post, colour) : NONE;
    }

    public int grow(int i) {
        grower.plan(presentNet());
        if (grower.picked == OTHER) {
            return OTHER;
        }
        if (i == NONE) {
            return grower.picked;
        }
        return i >= 0 && i < grower.picked ? grower.picks[i] : NONE;
    }

    public boolean hold(int slot) {
        if (slot < 0 || slot >= SLOTS) {
            return false;
        }
        slots[slot].copy(state);
        held |= 1 << slot;
        return true;
    }

    public boolean restore(int slot) {
        if (slot < 0 || slot >= SLOTS || !has(held, slot)) {
            return false;
        }
        state.copy(slots[slot]);
        history.forget();
        allChanged();
        return true;
    }

    public int count(int what) {
        switch (what) {
            case 0:
                return state.posts;
            case 1:
                return state.links;
            case 2:
                return state.on;
            case 3:
                return state.live();
            case 4:
                return state.learntLinks;
            case 5:
                return state.learntPosts;
            case 6:
                return state.posts == 0 ? OTHER : state.root;
            case 7:
                return state.sent;
            case 8:
                return reader.bytes;
            case 9:
                return history.kept;
            case 10:
                return Integer.bitCount(held);
            case 11:
                return state.arrived;
            case 12:
                return presentNet().isTied() ? 1 : 0;
            case 13:
                return fillLoads();
            case 14:
                return clearPosts();
            case 15:
                return state.hops;
            default:
                return NONE;
        }
    }

    private boolean isPost(int post) {
        return post >= 0 && post < state.posts;
    }

    private boolean isLink(int link) {
        return link >= 0 && link < state.links;
    }

    private static boolean isCost(int cost) {
        return cost >= 1 && cost <= DEAREST;
    }

    private static boolean isColour(int colour) {
        return colour == RED || colour == BLUE;
    }

    private static boolean isNet(int which) {
        return which == 0 || which == 1;
    }

    private boolean canSend(int from, int to) {
        return isPost(from) && isPost(to) && from != to && has(state.on, from) && has(state.on, to);
    }

    /** True if the post has ways to the root; the tables of this root are ready then. */
    private boolean hasWay(int root, int post) {
        if (!isPost(root) || !isPost(post) || root == post || !has(learntNet().whole[root], post)) {
            return false;
        }
        tables.prepare(learnt, root);
        return true;
    }

    private void allChanged() {
        presentStale = true;
        learntStale = true;
    }

    private Net netOf(int which) {
        return which == 0 ? presentNet() : learntNet();
    }

    private Net presentNet() {
        if (presentStale) {
            present.build(state, state.on, state.live());
            grower.forget();
            presentStale = false;
        }
        return present;
    }

    private Net learntNet() {
        if (learntStale) {
            learnt.build(state, state.learntPosts, state.learntLinks);
            tables.forget();
            learntStale = false;
        }
        return learnt;
    }

    /** True if data can be sent; the tables by which it goes are ready then. */
    private boolean canGo(int from, int to) {
        if (!canSend(from, to)) {
            return false;
        }
        tables.prepare(learntNet(), to);
        return true;
    }

    private boolean comes(int from, int to, int live) {
        trip.run(tables, from, to, live);
        return trip.came;
    }

    /** Fills in the loads of all links: the greatest of them. */
    private int fillLoads() {
        int live = state.live();
        for (int i = 0; i < LINKS; i++) {
            loads[i] = 0;
        }
        for (int from = 0; from < POSTS; from++) {
            for (int to = 0; to < POSTS; to++) {
                if (canGo(from, to)) {
                    trip.run(tables, from, to, live);
                    trip.tally(loads);
                }
            }
        }
        int greatest = 0;
        for (int i = 0; i < LINKS; i++) {
            greatest = Math.max(greatest, loads[i]);
        }
        return greatest;
    }

    /** The posts whose two ways to ROOT share nothing but their ends. */
    private int clearPosts() {
        int clear = 0;
        for (int post = 0; post < POSTS; post++) {
            if (hasWay(state.root, post) && tables.shared(state.root, post) == 0) {
                clear |= 1 << post;
            }
        }
        return clear;
    }

    private static boolean has(int bits, int i) {
        return (bits >> i & 1) != 0;
    }

    private static int lowest(int bits) {
        for (int i = 0; i < POSTS; i++) {
            if ((bits >> i & 1) != 0) {
                return i;
            }
        }
        return NONE;
    }

    /** The posts to which a start comes over posts within a set alone. */
    private static int reach(int[] near, int start, int within) {
        int seen = 1 << start & within;
        for (int round = 0; round < POSTS; round++) {
            int more = seen;
            for (int p = 0; p < POSTS; p++) {
                if ((seen >> p & 1) != 0) {
                    more |= near[p] & within;
                }
            }
            if (more == seen) {
                break;
            }
            seen = more;
        }
        return seen;
    }

    /** Writes, from a base on, for each post of a set the part of the set in which it is; 0 for others. */
    private static void parts(int[] near, int set, int[] into, int base) {
        for (int p = 0; p < POSTS; p++) {
            into[base + p] = 0;
        }
        for (int p = 0; p < POSTS; p++) {
            if (has(set, p) && into[base + p] == 0) {
                int part = reach(near, p, set);
                for (int q = 0; q < POSTS; q++) {
                    if (has(part, q)) {
                        into[base + q] = part;
                    }
                }
            }
        }
    }

    /** All that a thing done by hand can change, and that a slot holds. */
    private static final class State {
        int posts;
        int links;
        int on;
        int up;
        int root;
        int learntPosts;
        int learntLinks;
        int sent;
        int arrived;
        int hops;
        final int[] one = new int[LINKS];
        final int[] two = new int[LINKS];
        final int[] price = new int[LINKS];
        final int[] gone = new int[LINKS];

        void copy(State other) {
            posts = other.posts;
            links = other.links;
            on = other.on;
            up = other.up;
            root = other.root;
            learntPosts = other.learntPosts;
            learntLinks = other.learntLinks;
            sent = other.sent;
            arrived = other.arrived;
            hops = other.hops;
            for (int i = 0; i < LINKS; i++) {
                one[i] = other.one[i];
                two[i] = other.two[i];
                price[i] = other.price[i];
                gone[i] = other.gone[i];
            }
        }

        /** Empties it for a new text; what stands in its rows is written anew by add. */
        void clear() {
            posts = 0;
            links = 0;
            on = 0;
            up = 0;
            root = 0;
            learntPosts = 0;
            learntLinks = 0;
            sent = 0;
            arrived = 0;
            hops = 0;
        }

        void add(int a, int b, int cost) {
            if (links >= LINKS) {
                return;
            }
            one[links] = a;
            two[links] = b;
            price[links] = cost;
            gone[links] = 0;
            up |= 1 << links;
            links++;
        }

        int between(int a, int b) {
            for (int i = 0; i < LINKS; i++) {
                if (i < links && (one[i] == a && two[i] == b || one[i] == b && two[i] == a)) {
                    return i;
                }
            }
            return NONE;
        }

        /** The LINKS of the NET: up, between two posts that are on. */
        int live() {
            int live = 0;
            for (int i = 0; i < LINKS; i++) {
                if (i < links && has(up, i) && has(on, one[i]) && has(on, two[i])) {
                    live |= 1 << i;
                }
            }
            return live;
        }

        /** True if a post comes to another one by the given links alone. */
        boolean joined(int from, int to, int given) {
            int seen = 1 << from;
            for (int round = 0; round < POSTS && !has(seen, to); round++) {
                for (int i = 0; i < LINKS; i++) {
                    int ends = 1 << one[i] | 1 << two[i];
                    if (i < links && has(given, i) && (seen & ends) != 0) {
                        seen |= ends;
                    }
                }
            }
            return has(seen, to);
        }
    }

    /** The states ahead of the last things done by hand, the oldest given up when there are too many. */
    private static final class History {
        static final int DEPTH = 40;

        int kept;
        private int top;
        private final State[] past = new State[DEPTH];

        History() {
            for (int i = 0; i < DEPTH; i++) {
                past[i] = new State();
            }
        }

        void forget() {
            kept = 0;
        }

        void keep(State state) {
            past[top].copy(state);
            top = top + 1 < DEPTH ? top + 1 : 0;
            kept = Math.min(kept + 1, DEPTH);
        }

        boolean bring(State state) {
            if (kept == 0) {
                return false;
            }
            top = top > 0 ? top - 1 : DEPTH - 1;
            kept--;
            state.copy(past[top]);
            return true;
        }
    }

    /** The tape, and what makes a state of the text on it. */
    private static final class Reader {
        static final int TAPE = 2000;
        static final int MOST_TOKENS = 400;
        static final int LONGEST_NAME = 8;
        static final int LONGEST_INT = 4;
        static final int SYNTAX = 1;
        static final int ROOM = 2;
        static final int TWICE = 3;
        static final int NAME = 4;
        static final int WRONG = 5;

        int bytes;
        int fault = NONE;
        final State draft = new State();
        private final byte[] tape = new byte[TAPE];
        private int tokens;
        private final int[] kind = new int[MOST_TOKENS];
        private final int[] at = new int[MOST_TOKENS];
        private final long[] value = new long[MOST_TOKENS];
        private String shape = "";
        private int spot;
        private int postLines;
        private int linkLines;
        private int named;
        private final long[] names = new long[POSTS];
        private final int[] linked = new int[POSTS];
        private final int[] downed = new int[POSTS];
        private int off;

        boolean hasRoom() {
            return bytes + 20 <= TAPE;
        }

        void append(int four) {
            for (int shift = 24; shift >= 0; shift -= 8) {
                if (bytes >= 0 && bytes < TAPE) {
                    tape[bytes] = (byte) (four >> shift);
                    bytes++;
                }
            }
        }

        /** Reads the tape into the draft and empties it: the number of the text's fault, 0 without. */
        int parse() {
            fault = NONE;
            int number = split();
            if (number == 0) {
                gather();
                number = tell();
            }
            if (number == 0) {
                finish();
            }
            bytes = 0;
            return number;
        }

        private int byteAt(int i) {
            return i >= 0 && i < bytes && i < TAPE ? tape[i] & 255 : NONE;
        }

        private static boolean isBlank(int b) {
            return b == 9 || b == 10 || b == 13 || b == 32;
        }

        private static boolean isLetter(int b) {
            return b >= 'a' && b <= 'z';
        }

        private static boolean isDigit(int b) {
            return b >= '0' && b <= '9';
        }

        private int failAt(int number, int spot) {
            fault = spot;
            return number;
        }

        /** Takes the text apart into tokens, up to the first fault of SYNTAX or ROOM. */
        private int split() {
            tokens = 0;
            shape = "";
            spot = 0;
            postLines = 0;
            linkLines = 0;
            int next = 0;
            for (int round = 0; round <= TAPE; round++) {
                next = afterBlanks(next);
                if (next >= bytes) {
                    return spot < shape.length() ? failAt(SYNTAX, bytes) : 0;
                }
                int end = tokenEnd(next);
                int sort = sortOf(next, end);
                if (!goesOn(sort)) {
                    return failAt(SYNTAX, next);
                }
                if (!fits(sort)) {
                    return failAt(ROOM, next);
                }
                keepToken(sort, next, end);
                next = end;
            }
            return 0;
        }

        private int afterBlanks(int from) {
            int i = from;
            for (int round = 0; round < TAPE && isBlank(byteAt(i)); round++) {
                i++;
            }
            return i;
        }

        private int tokenEnd(int from) {
            boolean letters = isLetter(byteAt(from));
            boolean digits = isDigit(byteAt(from));
            int i = from + 1;
            for (int round = 0; round < TAPE; round++) {
                int b = byteAt(i);
                if (letters && isLetter(b) || digits && isDigit(b)) {
                    i++;
                } else {
                    break;
                }
            }
            return i;
        }

        /** A token's sort: the first letter of a word, n a NAME, i an INT, the sign itself; ? is no token. */
        private int sortOf(int from, int end) {
            int first = byteAt(from);
            if (first == ';') {
                return ';';
            }
            if (isDigit(first)) {
                return end - from <= LONGEST_INT ? 'i' : '?';
            }
            if (!isLetter(first) || end - from > LONGEST_NAME) {
                return '?';
            }
            boolean word = spells(from, end, "post") || spells(from, end, "link") || spells(from, end, "off")
                    || spells(from, end, "root") || spells(from, end, "down");
            return word ? first : 'n';
        }

        private boolean spells(int from, int end, String word) {
            if (end - from != word.length()) {
                return false;
            }
            for (int i = 0; i < word.length(); i++) {
                if (byteAt(from + i) != word.charAt(i)) {
                    return false;
                }
            }
            return true;
        }

        /** What must follow the first word of a line; empty for what begins no line. */
        private static String shapeOf(int sort) {
            switch (sort) {
                case 'p':
                case 'o':
                case 'r':
                    return "n;";
                case 'l':
                    return "nni;";
                case 'd':
                    return "nn;";
                default:
                    return "";
            }
        }

        private boolean goesOn(int sort) {
            if (spot < shape.length()) {
                boolean due = shape.charAt(spot) == sort;
                spot++;
                return due;
            }
            shape = shapeOf(sort);
            spot = 0;
            return !shape.isEmpty();
        }

        private boolean fits(int sort) {
            if (sort == 'p') {
                postLines++;
            }
            if (sort == 'l') {
                linkLines++;
            }
            return tokens < MOST_TOKENS && postLines <= POSTS && linkLines <= LINKS;
        }

        private void keepToken(int sort, int from, int end) {
            if (tokens < 0 || tokens >= MOST_TOKENS) {
                return;
            }
            kind[tokens] = sort;
            at[tokens] = from;
            value[tokens] = sort == 'i' ? packed(from, end, 10, '0') : packed(from, end, 32, 'a' - 1);
            tokens++;
        }

        /** An INT as its number; a NAME as a number of its own, of at most eight signs of five bits. */
        private long packed(int from, int end, int base, int zero) {
            long sum = 0;
            for (int i = 0; i < LONGEST_NAME && from + i < end; i++) {
                sum = sum * base + (byteAt(from + i) - zero);
            }
            return sum;
        }

        private int kindAt(int token) {
            return token >= 0 && token < tokens ? kind[token] : '?';
        }

        private long valueAt(int token) {
            return token >= 0 && token < tokens ? value[token] : NONE;
        }

        private int placeAt(int token) {
            return token >= 0 && token < tokens ? at[token] : NONE;
        }

        private int find(long name) {
            for (int i = 0; i < POSTS; i++) {
                if (i < named && names[i] == name) {
                    return i;
                }
            }
            return NONE;
        }

        /** Collects the posts and links of the whole text: a line may speak of what is told behind it. */
        private void gather() {
            named = 0;
            for (int token = 0; token < tokens; token++) {
                if (kindAt(token) == 'p' && named < POSTS && find(valueAt(token + 1)) == NONE) {
                    names[named] = valueAt(token + 1);
                    named++;
                }
            }
            off = 0;
            for (int p = 0; p < POSTS; p++) {
                linked[p] = 0;
                downed[p] = 0;
            }
            for (int token = 0; token < tokens; token++) {
                if (kindAt(token) == 'l') {
                    mark(linked, find(valueAt(token + 1)), find(valueAt(token + 2)));
                }
            }
        }

        private static void mark(int[] rows, int a, int b) {
            if (a >= 0 && b >= 0 && a != b && a < rows.length && b < rows.length) {
                rows[a] |= 1 << b;
                rows[b] |= 1 << a;
            }
        }

        /** Goes through the lines into the draft, up to the first fault. */
        private int tell() {
            draft.clear();
            for (int token = 0; token < tokens; token++) {
                int number = tellLine(token);
                if (number != 0) {
                    return number;
                }
            }
            return 0;
        }

        private int tellLine(int token) {
            switch (kindAt(token)) {
                case 'p':
                    return tellPost(token + 1);
                case 'l':
                    return tellLink(token + 1);
                case 'o':
                case 'r':
                    return tellOne(token + 1, kindAt(token) == 'r');
                case 'd':
                    return tellDown(token + 1);
                default:
                    return 0;
            }
        }

        private int tellPost(int token) {
            // the names stand as they were first told, so the next new one is just that of the next post
            if (find(valueAt(token)) != draft.posts) {
                return failAt(TWICE, placeAt(token));
            }
            draft.posts++;
            return 0;
        }

        private int tellLink(int token) {
            int a = find(valueAt(token));
            int b = find(valueAt(token + 1));
            if (a == NONE) {
                return failAt(NAME, placeAt(token));
            }
            if (b == NONE) {
                return failAt(NAME, placeAt(token + 1));
            }
            if (a == b || draft.between(a, b) != NONE) {
                return failAt(TWICE, placeAt(token + 1));
            }
            int cost = (int) valueAt(token + 2);
            if (!isCost(cost)) {
                return failAt(WRONG, placeAt(token + 2));
            }
            draft.add(a, b, cost);
            return 0;
        }

        private int tellOne(int token, boolean root) {
            int post = find(valueAt(token));
            if (post == NONE) {
                return failAt(NAME, placeAt(token));
            }
            if (root) {
                draft.root = post;
            } else {
                off |= 1 << post;
            }
            return 0;
        }

        private int tellDown(int token) {
            int a = find(valueAt(token));
            int b = find(valueAt(token + 1));
            if (a < 0 || a >= POSTS) {
                return failAt(NAME, placeAt(token));
            }
            if (b < 0 || b >= POSTS) {
                return failAt(NAME, placeAt(token + 1));
            }
            if (!has(linked[a], b)) {
                return failAt(WRONG, placeAt(token + 1));
            }
            mark(downed, a, b);
            return 0;
        }

        /** What is told off or down may be told ahead of its post or link, so it counts at the end alone. */
        private void finish() {
            draft.on = (1 << draft.posts) - 1 & ~off;
            for (int i = 0; i < LINKS; i++) {
                if (i < draft.links && has(downed[draft.one[i]], draft.two[i])) {
                    draft.up &= ~(1 << i);
                }
            }
            draft.learntPosts = draft.on;
            draft.learntLinks = draft.live();
        }
    }

    /** The pieces, cut posts, bridges and blocks of a net. */
    private static final class Net {
        int posts;
        final int[] near = new int[POSTS];
        final int[] whole = new int[POSTS];
        private int links;
        private final int[] number = new int[POSTS * POSTS];
        private final int[] apart = new int[POSTS * POSTS];
        private final int[] mates = new int[POSTS];

        void build(State state, int posts, int links) {
            this.posts = posts;
            this.links = links;
            for (int p = 0; p < POSTS; p++) {
                near[p] = 0;
            }
            for (int i = 0; i < LINKS; i++) {
                if (i < state.links && has(links, i)) {
                    int a = state.one[i];
                    int b = state.two[i];
                    near[a] |= 1 << b;
                    near[b] |= 1 << a;
                    number[a * POSTS + b] = i;
                    number[b * POSTS + a] = i;
                }
            }
            divide();
            match();
        }

        /** The parts of the whole, and those without each one of the posts. */
        void divide() {
            parts(near, posts, whole, 0);
            for (int p = 0; p < POSTS; p++) {
                parts(near, posts & ~(1 << p), apart, p * POSTS);
            }
        }

        /** Two posts are of one block just when no third one parts them. */
        private void match() {
            for (int p = 0; p < POSTS; p++) {
                mates[p] = whole[p];
                for (int q = 0; q < POSTS; q++) {
                    if (q != p && has(posts, p) && has(posts, q)) {
                        mates[p] &= without(q, p) | 1 << q;
                    }
                }
            }
        }

        /** The part in which a post is when another one is gone. */
        int without(int gone, int post) {
            return apart[gone * POSTS + post];
        }

        /** The block of two posts that are of one; two blocks share one post at most, so it is just one. */
        int blockOf(int a, int b) {
            return mates[a] & mates[b];
        }

        int linkOf(int a, int b) {
            return has(near[a], b) ? number[a * POSTS + b] : NONE;
        }

        boolean isLeast(int post, int set) {
            return set != 0 && lowest(set) == post;
        }

        int pieceAt(int i) {
            int found = 0;
            for (int p = 0; p < POSTS; p++) {
                if (isLeast(p, whole[p])) {
                    if (found == i) {
                        return whole[p];
                    }
                    found++;
                }
            }
            return i == NONE ? found : NONE;
        }

        int blockAt(int i) {
            int found = 0;
            int set = leastBlock(0);
            for (int round = 0; round < POSTS && set != 0; round++) {
                if (found == i) {
                    return set;
                }
                found++;
                set = leastBlock(set);
            }
            return i == NONE ? found : NONE;
        }

        /** The least block above a number; 0 if there is none. */
        private int leastBlock(int above) {
            int least = 0;
            for (int a = 0; a < POSTS; a++) {
                for (int b = a + 1; b < POSTS; b++) {
                    int set = has(mates[a], b) ? blockOf(a, b) : 0;
                    if (set > above && (least == 0 || set < least)) {
                        least = set;
                    }
                }
            }
            return least;
        }

        int cutPosts() {
            int cut = 0;
            for (int p = 0; p < POSTS; p++) {
                int beside = lowest(near[p]);
                if (beside != NONE && (near[p] & ~without(p, beside)) != 0) {
                    cut |= 1 << p;
                }
            }
            return cut;
        }

        /** A link is a bridge just when its two posts are a whole block. */
        int bridgeLinks() {
            int bridge = 0;
            for (int a = 0; a < POSTS; a++) {
                for (int b = a + 1; b < POSTS; b++) {
                    int link = linkOf(a, b);
                    if (link != NONE && has(links, link) && blockOf(a, b) == (1 << a | 1 << b)) {
                        bridge |= 1 << link;
                    }
                }
            }
            return bridge;
        }

        boolean isTied() {
            if (Integer.bitCount(posts) < 2) {
                return true;
            }
            for (int p = 0; p < POSTS; p++) {
                if (has(posts, p) && mates[p] != posts) {
                    return false;
                }
            }
            return true;
        }

        /** The head of the own block of a post: the root, or the one of its mates that parts it from the root. */
        int headFrom(int post, int root) {
            if (has(mates[post], root)) {
                return root;
            }
            for (int p = 0; p < POSTS; p++) {
                if (p != post && has(mates[post], p) && !has(without(p, post), root)) {
                    return p;
                }
            }
            return NONE;
        }

        int lastOf(int own, int head) {
            return head == NONE ? NONE : lowest(near[head] & own);
        }
    }

    /** For each root the own blocks and hops of all posts, made when they are first asked for. */
    private static final class Tables {
        int length;
        final int[] row = new int[POSTS];
        private int ready;
        private final int[] heads = new int[POSTS * POSTS];
        private final int[] owns = new int[POSTS * POSTS];
        private final int[] nexts = new int[2 * POSTS * POSTS];
        private final int[] links = new int[2 * POSTS * POSTS];

        void forget() {
            ready = 0;
        }

        int headOf(int root, int post) {
            return heads[root * POSTS + post];
        }

        int ownOf(int root, int post) {
            return owns[root * POSTS + post];
        }

        private static int cell(int root, int post, int colour) {
            return (colour * POSTS + root) * POSTS + post;
        }

        int next(int root, int post, int colour) {
            return nexts[cell(root, post, colour)];
        }

        int linkAt(int root, int post, int colour) {
            return links[cell(root, post, colour)];
        }

        void prepare(Net net, int root) {
            if (has(ready, root)) {
                return;
            }
            ready |= 1 << root;
            for (int p = 0; p < POSTS; p++) {
                heads[root * POSTS + p] = NONE;
                owns[root * POSTS + p] = 0;
                putHop(net, root, p, RED, NONE);
                putHop(net, root, p, BLUE, NONE);
            }
            for (int p = 0; p < POSTS; p++) {
                if (p != root && has(net.whole[root], p) && ownOf(root, p) == 0) {
                    settle(net, root, p);
                }
            }
        }

        /** All posts of an own block but its head have this own block alike, so they are settled together. */
        private void settle(Net net, int root, int post) {
            int head = net.headFrom(post, root);
            if (head == NONE) {
                return;
            }
            int own = net.blockOf(post, head);
            arrange(net, own, head);
            for (int p = 0; p < POSTS; p++) {
                if (p != head && has(own, p)) {
                    heads[root * POSTS + p] = head;
                    owns[root * POSTS + p] = own;
                    putHop(net, root, p, RED, redHop(net, p));
                    putHop(net, root, p, BLUE, blueHop(net, p));
                }
            }
        }

        private void putHop(Net net, int root, int post, int colour, int to) {
            nexts[cell(root, post, colour)] = to;
            links[cell(root, post, colour)] = to == NONE ? NONE : net.linkOf(post, to);
        }

        /**
         * Writes the order of a block into the row. A beginning of it can be gone on from just when the rest,
         * with its last, hangs together; so the lowest next post that keeps it so is always right.
         */
        void arrange(Net net, int own, int head) {
            length = 0;
            int last = net.lastOf(own, head);
            if (head == NONE || last == NONE) {
                return;
            }
            int rest = own & ~(1 << head);
            putRow(head);
            for (int round = 2; round < POSTS; round++) {
                int pick = nextOf(net, own, rest, last);
                if (pick == NONE) {
                    break;
                }
                putRow(pick);
                rest &= ~(1 << pick);
            }
            putRow(last);
        }

        private void putRow(int post) {
            if (length >= 0 && length < POSTS) {
                row[length] = post;
                length++;
            }
        }

        private static int nextOf(Net net, int own, int rest, int last) {
            int done = own & ~rest;
            for (int p = 0; p < POSTS; p++) {
                if (p != last && has(rest, p) && (net.near[p] & done) != 0) {
                    int left = rest & ~(1 << p);
                    if (reach(net.near, last, left) == left) {
                        return p;
                    }
                }
            }
            return NONE;
        }

        private int redHop(Net net, int post) {
            // the last of a block of more than two would go to its head at once, as its blue hop does
            int from = length > 2 && row[length - 1] == post ? 1 : 0;
            for (int i = from; i < length; i++) {
                if (has(net.near[post], row[i])) {
                    return row[i];
                }
            }
            return NONE;
        }

        private int blueHop(Net net, int post) {
            if (length > 0 && row[length - 1] == post) {
                return row[0];
            }
            for (int i = length - 1; i >= 0; i--) {
                if (has(net.near[post], row[i])) {
                    return row[i];
                }
            }
            return NONE;
        }

        /** How many hops a way has (i NONE), else where its i-th hop goes. */
        int along(int root, int post, int colour, int i) {
            int at = post;
            int hops = 0;
            for (int round = 0; round < POSTS && at != root && at != NONE; round++) {
                at = next(root, at, colour);
                if (hops == i) {
                    return at;
                }
                hops++;
            }
            return i == NONE ? hops : NONE;
        }

        private int passed(int root, int post, int colour) {
            int at = post;
            int set = 0;
            for (int round = 0; round < POSTS && at != root && at != NONE; round++) {
                set |= 1 << at;
                at = next(root, at, colour);
            }
            return set;
        }

        int shared(int root, int post) {
            return passed(root, post, RED) & passed(root, post, BLUE) & ~(1 << post);
        }

        int priceAlong(State state, int root, int post, int colour) {
            int at = post;
            int sum = 0;
            for (int round = 0; round < POSTS && at != root && at != NONE; round++) {
                int link = linkAt(root, at, colour);
                sum += link >= 0 && link < LINKS ? state.price[link] : 0;
                at = next(root, at, colour);
            }
            return sum;
        }
    }

    /** The search by depth. */
    private static final class Walk {
        final int[] number = new int[POSTS];
        final int[] parent = new int[POSTS];
        final int[] low = new int[POSTS];
        private final int[] met = new int[POSTS];
        private int found;

        void from(Net net, int root) {
            found = 0;
            for (int p = 0; p < POSTS; p++) {
                number[p] = NONE;
                parent[p] = NONE;
                low[p] = NONE;
            }
            meet(root, OTHER);
            int at = root;
            // each post is come to once and gone back from once
            for (int round = 0; round < 2 * POSTS && at >= 0; round++) {
                int next = lowestNew(net.near[at]);
                if (next != NONE) {
                    meet(next, at);
                    at = next;
                } else {
                    at = parent[at];
                }
            }
            for (int i = found - 1; i >= 0; i--) {
                low[met[i]] = lowOf(net, met[i]);
            }
        }

        private void meet(int post, int from) {
            if (found < 0 || found >= POSTS) {
                return;
            }
            number[post] = found;
            parent[post] = from;
            met[found] = post;
            found++;
        }

        private int lowestNew(int set) {
            for (int p = 0; p < POSTS; p++) {
                if (has(set, p) && number[p] == NONE) {
                    return p;
                }
            }
            return NONE;
        }

        private int lowOf(Net net, int post) {
            int least = number[post];
            for (int p = 0; p < POSTS; p++) {
                if (has(net.near[post], p) && p != parent[post]) {
                    least = Math.min(least, parent[p] == post ? low[p] : number[p]);
                }
            }
            return least;
        }
    }

    /** The ears of a block, one behind the other in one row. */
    private static final class Ears {
        static final int CELLS = 3 * LINKS;

        int ears;
        private int used;
        private final int[] cells = new int[CELLS];
        private final int[] begins = new int[LINKS + 1];
        private final int[] loose = new int[POSTS];
        private final int[] came = new int[POSTS];
        private int entered;
        private int in;
        private final int[] far = new int[POSTS];

        void trace(Net net, int own, int head) {
            ears = 0;
            used = 0;
            in = 0;
            entered = 0;
            for (int p = 0; p < POSTS; p++) {
                loose[p] = has(own, p) ? net.near[p] & own : 0;
            }
            enter(head);
            for (int round = 0; round < LINKS; round++) {
                int start = firstLoose();
                if (start == NONE) {
                    break;
                }
                begins[round] = used;
                ears = round + 1;
                lead(own, start);
            }
        }

        int at(int i, int k) {
            if (i < 0 || i >= ears || i >= LINKS) {
                return NONE;
            }
            int size = (i + 1 < ears ? begins[i + 1] : used) - begins[i];
            if (k == NONE) {
                return size;
            }
            return k >= 0 && k < size && begins[i] + k < CELLS ? cells[begins[i] + k] : NONE;
        }

        private void enter(int post) {
            if (post >= 0 && entered >= 0 && entered < POSTS) {
                in |= 1 << post;
                came[entered] = post;
                entered++;
            }
        }

        private int firstLoose() {
            for (int i = 0; i < entered && i < POSTS; i++) {
                if (loose[came[i]] != 0) {
                    return came[i];
                }
            }
            return NONE;
        }

        private void putCell(int post) {
            if (used >= 0 && used < CELLS) {
                cells[used] = post;
                used++;
            }
        }

        private void goOver(int a, int b) {
            loose[a] &= ~(1 << b);
            loose[b] &= ~(1 << a);
            putCell(b);
        }

        private void lead(int own, int start) {
            int at = lowest(loose[start]);
            if (at == NONE) {
                return;
            }
            putCell(start);
            goOver(start, at);
            int goals = in == 1 << start ? in : in & ~(1 << start);
            boolean open = !has(in, at);
            for (int round = 0; round < POSTS && open; round++) {
                enter(at);
                if (round == 0) {
                    measure(own & ~in, goals);
                }
                int goal = lowest(loose[at] & goals);
                int next = goal != NONE ? goal : nearest(loose[at] & own & ~in);
                if (next == NONE) {
                    break;
                }
                goOver(at, next);
                at = next;
                open = goal == NONE;
            }
        }

        /** How many links it is at least from each post of a set, over this set, to a goal; 0: never. */
        private void measure(int set, int goals) {
            for (int p = 0; p < POSTS; p++) {
                far[p] = 0;
            }
            int edge = goals;
            int left = set;
            for (int round = 1; round <= POSTS && edge != 0; round++) {
                int more = 0;
                for (int p = 0; p < POSTS; p++) {
                    if (has(left, p) && (loose[p] & edge) != 0) {
                        far[p] = round;
                        more |= 1 << p;
                    }
                }
                left &= ~more;
                edge = more;
            }
        }

        private int nearest(int set) {
            int best = NONE;
            for (int p = 0; p < POSTS; p++) {
                if (has(set, p) && far[p] > 0 && (best == NONE || far[p] < far[best])) {
                    best = p;
                }
            }
            return best;
        }
    }

    /** What becomes of data that is sent over the links that live. */
    private static final class Trip {
        static final int MOST = 2 * POSTS;

        boolean came;
        int hops;
        int turn;
        int end;
        private final int[] trail = new int[MOST];

        void run(Tables tables, int from, int to, int live) {
            hops = 0;
            turn = OTHER;
            end = from;
            int colour = RED;
            // no way meets a post twice, so red and blue have fewer than eight hops each, and it turns once
            for (int round = 0; round <= MOST && end != to; round++) {
                int link = tables.linkAt(to, end, colour);
                if (link != NONE && has(live, link) && hops < MOST) {
                    trail[hops] = link;
                    hops++;
                    end = tables.next(to, end, colour);
                } else if (colour == RED) {
                    colour = BLUE;
                    turn = end;
                } else {
                    break;
                }
            }
            came = end == to;
        }

        void tally(int[] sums) {
            for (int i = 0; i < hops && i < MOST; i++) {
                if (trail[i] >= 0 && trail[i] < sums.length) {
                    sums[trail[i]]++;
                }
            }
        }
    }

    /** The cheapest ways. */
    private static final class Prices {
        static final int FAR = 1000000;

        private final int[] best = new int[POSTS];

        /** The cost of the cheapest way by the given links over posts within a set; FAR if there is none. */
        int cheapest(State state, int given, int from, int to, int within) {
            for (int p = 0; p < POSTS; p++) {
                best[p] = FAR;
            }
            best[from] = 0;
            boolean changed = true;
            for (int round = 0; round < POSTS && changed; round++) {
                changed = false;
                for (int i = 0; i < LINKS; i++) {
                    if (i < state.links && has(given, i) && has(within, state.one[i]) && has(within, state.two[i])) {
                        boolean there = better(state.one[i], state.two[i], state.price[i]);
                        boolean here = better(state.two[i], state.one[i], state.price[i]);
                        changed = changed || there || here;
                    }
                }
            }
            return best[to];
        }

        private boolean better(int from, int to, int price) {
            if (best[from] + price >= best[to]) {
                return false;
            }
            best[to] = best[from] + price;
            return true;
        }

        /** The cheapest two that share nothing: the posts between are dealt out to the two in every way. */
        int cheapestTwo(State state, int from, int to) {
            int ends = 1 << from | 1 << to;
            int inner = state.on & ~ends;
            int live = state.live();
            int direct = state.between(from, to);
            int least = FAR;
            if (direct != NONE && has(live, direct)) {
                live &= ~(1 << direct);
                least = state.price[direct] + cheapest(state, live, from, to, state.on);
            }
            for (int set = 0; set < 1 << POSTS; set++) {
                int others = inner & ~set;
                // each dealing is met twice, and the half in which the set is the lesser will do
                if ((set & ~inner) == 0 && set < others) {
                    int first = cheapest(state, live, from, to, set | ends);
                    if (first < least) {
                        least = Math.min(least, first + cheapest(state, live, from, to, others | ends));
                    }
                }
            }
            return least;
        }
    }

    /** The fewest new links that tie all posts together. */
    private static final class Grower {
        static final int MOST = 4;

        int picked;
        final int[] picks = new int[MOST];
        private boolean known;
        private final Net trial = new Net();

        void forget() {
            known = false;
        }

        /** One link lessens what is needed by one at most, so the least one that does so is always right. */
        void plan(Net net) {
            if (known) {
                return;
            }
            known = true;
            trial.posts = net.posts;
            for (int p = 0; p < POSTS; p++) {
                trial.near[p] = net.near[p];
            }
            trial.divide();
            int left = need();
            picked = left > MOST ? OTHER : 0;
            for (int a = 0; a < POSTS; a++) {
                for (int b = a + 1; b < POSTS; b++) {
                    if (picked >= 0 && picked < MOST && left > 0 && isNew(a, b) && helps(a, b, left)) {
                        picks[picked] = 10 * a + b;
                        picked++;
                        left--;
                    }
                }
            }
        }

        private boolean isNew(int a, int b) {
            return has(trial.posts, a) && has(trial.posts, b) && !has(trial.near[a], b);
        }

        private boolean helps(int a, int b, int left) {
            flip(a, b);
            if (need() < left) {
                return true;
            }
            flip(a, b);
            return false;
        }

        private void flip(int a, int b) {
            trial.near[a] ^= 1 << b;
            trial.near[b] ^= 1 << a;
            trial.divide();
        }

        /**
         * How many links the trial needs, after Eswaran and Tarjan: each end block wants one end of a link, each
         * piece without a cut two, and what a cut post parts must be joined again.
         */
        private int need() {
            if (Integer.bitCount(trial.posts) <= 2) {
                return Math.max(trial.pieceAt(NONE) - 1, 0);
            }
            int cut = trial.cutPosts();
            int widest = 0;
            int ends = 0;
            int alone = 0;
            for (int p = 0; p < POSTS; p++) {
                if (trial.isLeast(p, trial.whole[p]) && (trial.whole[p] & cut) == 0) {
                    alone++;
                }
                if (has(cut, p)) {
                    widest = Math.max(widest, partsWithout(p));
                    ends += endsAt(p, cut);
                }
            }
            if (alone == 1 && ends == 0) {
                return 0;
            }
            return Math.max(widest - 1, (ends + 1) / 2 + alone);
        }

        private int partsWithout(int gone) {
            int found = 0;
            for (int p = 0; p < POSTS; p++) {
                if (trial.isLeast(p, trial.without(gone, p))) {
                    found++;
                }
            }
            return found;
        }

        /** The end blocks at a cut post: the parts beside it in which there is no other cut. */
        private int endsAt(int gone, int cut) {
            int found = 0;
            for (int p = 0; p < POSTS; p++) {
                int part = trial.without(gone, p);
                if (trial.isLeast(p, part) && (part & cut) == 0 && (part & trial.near[gone]) != 0) {
                    found++;
                }
            }
            return found;
        }
    }
}
