import java.util.ArrayList;
import java.util.List;

/** Answers that come one by one, gathered into rows. */
final class Ask {
    private static final int NONE = RedBlueWays.NONE;

    private Ask() {
    }

    static int[] order(RedBlueWays x, int root, int post) {
        int[] row = new int[Math.max(0, x.order(root, post, NONE))];
        for (int i = 0; i < row.length; i++) {
            row[i] = x.order(root, post, i);
        }
        return row;
    }

    static int[] way(RedBlueWays x, int root, int post, int colour) {
        int[] row = new int[Math.max(0, x.way(root, post, colour, NONE))];
        for (int i = 0; i < row.length; i++) {
            row[i] = x.way(root, post, colour, i);
        }
        return row;
    }

    static int[] ear(RedBlueWays x, int root, int post, int which) {
        int[] row = new int[Math.max(0, x.ear(root, post, which, NONE))];
        for (int i = 0; i < row.length; i++) {
            row[i] = x.ear(root, post, which, i);
        }
        return row;
    }

    static int[] grown(RedBlueWays x) {
        int[] row = new int[Math.max(0, x.grow(NONE))];
        for (int i = 0; i < row.length; i++) {
            row[i] = x.grow(i);
        }
        return row;
    }

    static int[] would(RedBlueWays x, int from, int to) {
        return new int[] {x.would(from, to, 0), x.would(from, to, 1), x.would(from, to, 2), x.would(from, to, 3)};
    }

    static int[] pieces(RedBlueWays x, int which) {
        int[] row = new int[Math.max(0, x.piece(which, NONE))];
        for (int i = 0; i < row.length; i++) {
            row[i] = x.piece(which, i);
        }
        return row;
    }

    static int[] blocks(RedBlueWays x, int which) {
        int[] row = new int[Math.max(0, x.block(which, NONE))];
        for (int i = 0; i < row.length; i++) {
            row[i] = x.block(which, i);
        }
        return row;
    }

    /** All that can be changed by hand, in 16 calls and 6 for each link that there may be. */
    static int[] told(RedBlueWays x) {
        int[] row = new int[16 + 6 * 16];
        for (int what = 0; what < 16; what++) {
            row[what] = x.count(what);
        }
        for (int i = 0; i < 6 * 16; i++) {
            row[16 + i] = x.link(i / 6, i % 6);
        }
        return row;
    }

    /** All that a net answers, but the bytes on the tape and place(); some 150 calls with four posts, 480 with eight. */
    static int[] all(RedBlueWays x) {
        List<Integer> row = new ArrayList<>();
        int posts = x.count(0);
        int links = x.count(1);
        for (int what = 0; what < 16; what++) {
            if (what != 8) {
                row.add(x.count(what));
            }
        }
        for (int link = 0; link < links; link++) {
            for (int what = 0; what < 6; what++) {
                row.add(x.link(link, what));
            }
            row.add(x.load(link));
        }
        for (int which = 0; which < 2; which++) {
            for (int i = NONE; i < 3; i++) {
                row.add(x.piece(which, i));
                row.add(x.block(which, i));
            }
            row.add(x.cuts(which));
            row.add(x.bridges(which));
        }
        for (int i : grown(x)) {
            row.add(i);
        }
        for (int a = 0; a < posts; a++) {
            for (int b = 0; b < posts; b++) {
                row.add(x.hop(a, b, 0));
                row.add(x.hop(a, b, 1));
                row.add(x.search(a, b, 2));
                row.add(x.would(a, b, 1));
                row.add(x.cheap(a, b));
            }
        }
        return row.stream().mapToInt(Integer::intValue).toArray();
    }
}
