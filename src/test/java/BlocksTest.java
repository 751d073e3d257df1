/**
 * Some thousand blocks of eight posts, made by a fixed rule: orders, hops and ears by every root, held against what
 * is found by trying. What goes wrong in one block of ten thousand alone is looked for here.
 */
public final class BlocksTest {
    private static final Checks CHECKS = new Checks("BlocksTest");
    private static final int NONE = RedBlueWays.NONE;
    private static final int BLOCKS = 12000;

    private long seed = 20261118;
    private final boolean[][] tied = new boolean[8][8];
    private final boolean[][] loose = new boolean[8][8];
    private int links;
    private RedBlueWays x;
    private String text;

    private int pick(int below) {
        seed = seed * 6364136223846793005L + 1442695040888963407L;
        return (int) ((seed >>> 33) % below);
    }

    private void tie(int a, int b) {
        if (a != b && !tied[a][b] && links < 16) {
            tied[a][b] = true;
            tied[b][a] = true;
            links++;
            text += "link " + (char) ('a' + a) + " " + (char) ('a' + b) + " 1;";
        }
    }

    /** A ring of all eight, in any order, and a few more links, two most often: long ways are those that go wrong. */
    private void make() {
        int[] ring = {0, 1, 2, 3, 4, 5, 6, 7};
        text = "post a;post b;post c;post d;post e;post f;post g;post h;";
        links = 0;
        for (int i = 0; i < 8; i++) {
            int k = i + pick(8 - i);
            int other = ring[k];
            ring[k] = ring[i];
            ring[i] = other;
            tied[i] = new boolean[8];
        }
        for (int i = 0; i < 8; i++) {
            tie(ring[i], ring[(i + 1) % 8]);
        }
        int more = pick(4) == 0 ? pick(9) : 2 + pick(2);
        for (int i = 0; i < more; i++) {
            tie(pick(8), pick(8));
        }
        x = Checks.of(text);
    }

    private void due(String call, int got, int want) {
        CHECKS.due(call + " of " + text, got, want);
    }

    private boolean isOrder(int[] row) {
        for (int i = 1; i < 7; i++) {
            boolean ahead = false;
            boolean behind = false;
            for (int k = 0; k < 8; k++) {
                ahead |= k < i && tied[row[i]][row[k]];
                behind |= k > i && tied[row[i]][row[k]];
            }
            if (!ahead || !behind) {
                return false;
            }
        }
        return true;
    }

    /** Tries all orders that go on from the first n of the row, the least ahead. */
    private boolean findOrder(int[] row, int n, int used) {
        if (n == 7) {
            return isOrder(row);
        }
        for (int p = 0; p < 8; p++) {
            row[n] = p;
            if ((used >> p & 1) == 0 && findOrder(row, n + 1, used | 1 << p)) {
                return true;
            }
        }
        return false;
    }

    private void lookAtOrder(int root) {
        int[] row = new int[8];
        row[0] = root;
        int last = 7;
        for (int p = 7; p >= 0; p--) {
            last = tied[root][p] ? p : last;
        }
        row[7] = last;
        due("an order by " + root, findOrder(row, 1, 1 << root | 1 << last) ? 1 : 0, 1);
        int post = (root + 1) % 8;
        for (int i = 0; i < 8; i++) {
            due("order by " + root + " at " + i, x.order(root, post, i), row[i]);
            if (i > 0) {
                lookAtHops(root, row, i);
            }
        }
    }

    private void lookAtHops(int root, int[] row, int i) {
        int red = NONE;
        int blue = NONE;
        for (int k = 0; k < 8; k++) {
            if (tied[row[i]][row[k]]) {
                boolean barred = i == 7 && k == 0;
                red = red == NONE && !barred ? row[k] : red;
                blue = row[k];
            }
        }
        due("red by " + root + " of " + row[i], x.hop(root, row[i], 0), red);
        due("blue by " + root + " of " + row[i], x.hop(root, row[i], 1), i == 7 ? root : blue);
    }

    /** Tries all ways of so many links that go on from the first n of the row, the least ahead, to a goal. */
    private boolean findEar(int[] row, int n, int left, int in, int goals) {
        for (int p = 0; p < 8; p++) {
            if (!loose[row[n - 1]][p]) {
                continue;
            }
            row[n] = p;
            if (left == 1 && (goals >> p & 1) != 0) {
                return true;
            }
            if (left > 1 && (in >> p & 1) == 0 && findEar(row, n + 1, left - 1, in | 1 << p, goals)) {
                return true;
            }
        }
        return false;
    }

    /** The ear that begins with two posts: how many posts it has. */
    private int goOn(int[] row, int in) {
        if ((in >> row[1] & 1) != 0) {
            return 2;
        }
        int goals = in == 1 << row[0] ? in : in & ~(1 << row[0]);
        for (int left = 1; left <= 8; left++) {
            if (findEar(row, 2, left, in | 1 << row[1], goals)) {
                return 2 + left;
            }
        }
        return 0;
    }

    private void free(int a, int b) {
        loose[a][b] = false;
        loose[b][a] = false;
    }

    private int lowestLoose(int from) {
        for (int p = 0; p < 8; p++) {
            if (loose[from][p]) {
                return p;
            }
        }
        return NONE;
    }

    private void lookAtEars(int root) {
        int post = (root + 1) % 8;
        int ears = 0;
        int[] came = new int[8];
        came[0] = root;
        int entered = 1;
        int in = 1 << root;
        for (int p = 0; p < 8; p++) {
            System.arraycopy(tied[p], 0, loose[p], 0, 8);
        }
        for (int at = 0; at < entered; at++) {
            for (int next = lowestLoose(came[at]); next != NONE; next = lowestLoose(came[at])) {
                int[] row = new int[10];
                row[0] = came[at];
                row[1] = next;
                free(row[0], row[1]);
                int size = goOn(row, in);
                due("ear " + ears + " by " + root + ", how many", x.ear(root, post, ears, NONE), size);
                for (int i = 0; i < size; i++) {
                    due("ear " + ears + " by " + root + " at " + i, x.ear(root, post, ears, i), row[i]);
                    if (i > 0) {
                        free(row[i - 1], row[i]);
                    }
                    if ((in >> row[i] & 1) == 0) {
                        in |= 1 << row[i];
                        came[entered] = row[i];
                        entered++;
                    }
                }
                ears++;
            }
        }
        due("ears by " + root, x.ear(root, post, NONE, NONE), ears);
        due("ears by " + root + ", of as many links", ears, links - 7);
    }

    private void run() {
        for (int i = 0; i < BLOCKS && CHECKS.allRight(); i++) {
            make();
            for (int root = 0; root < 8; root++) {
                lookAtOrder(root);
                lookAtEars(root);
            }
        }
    }

    public static void main(String[] args) {
        new BlocksTest().run();
        CHECKS.end();
    }
}
