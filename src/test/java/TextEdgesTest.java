/** The edges of the Terms and of promises 1 to 5: the tape, the text, its tokens and its faults. */
public final class TextEdgesTest {
    private static final int NONE = RedBlueWays.NONE;
    private static final int SYNTAX = 1;
    private static final int ROOM = 2;
    private static final int TWICE = 3;
    private static final int NAME = 4;
    private static final int WRONG = 5;
    private static final String[] WORDS = {"post", "link", "off", "root", "down"};

    private static final Checks CHECKS = new Checks("TextEdgesTest");

    private static void due(String call, long got, long want) {
        CHECKS.due(call, got, want);
    }

    private static void due(String call, boolean got, boolean want) {
        CHECKS.due(call, got, want);
    }

    private static void rows(String call, int[] got, int... want) {
        CHECKS.rows(call, got, want);
    }

    /** Reads a text on a new object, and looks at its fault and its place (0 and NONE without). */
    private static RedBlueWays text(String text, int number, int place) {
        RedBlueWays x = new RedBlueWays();
        String brief = text.length() > 90 ? text.substring(0, 90) + ".. " + text.length() : text;
        Checks.type(x, text);
        due("bytes of " + brief, x.count(8), text.length());
        due("read of " + brief, x.read(), number);
        due("place of " + brief, x.place(), place);
        due("bytes behind " + brief, x.count(8), 0);
        return x;
    }

    private static RedBlueWays good(String text) {
        return text(text, 0, NONE);
    }

    private static String blanks(int n) {
        return " ".repeat(n);
    }

    private static void tape() {
        CHECKS.sentence("A TEXT has 2,000 bytes at most.");
        due("posts ahead of blanks", good("post a;" + blanks(1993)).count(0), 1);
        due("posts behind blanks", good(blanks(1993) + "post a;").count(0), 1);
        due("nothing but blanks", good(blanks(2000)).count(0), 0);
        text(blanks(1999) + "?", SYNTAX, 1999);
        text(blanks(1994) + "post a", SYNTAX, 2000);
        text("post" + blanks(1996), SYNTAX, 2000);
        text("a".repeat(2000), SYNTAX, 0);
        text("1".repeat(2000), SYNTAX, 0);

        CHECKS.sentence("Twenty bytes, the highest of a first, come behind the tape: how many it has.");
        RedBlueWays x = new RedBlueWays();
        // "post a;post bcdefgh;" and "off bcdefgh;        "
        due("feed", x.feed(0x706f7374, 0x20613b70, 0x6f737420, 0x62636465, 0x6667683b), 20);
        due("feed behind it", x.feed(0x6f666620, 0x62636465, 0x6667683b, 0x20202020, 0x20202020), 40);
        due("read", x.read(), 0);
        due("posts on", x.count(2), 1);
        due("bytes below 0", x.feed(-1, Integer.MIN_VALUE, -2, -256, -65536), 20);
        due("are no blanks", x.read(), SYNTAX);

        CHECKS.sentence("NONE, and nothing comes, if it would have more than 2,000.");
        for (int more = 1; more <= 20; more++) {
            RedBlueWays y = new RedBlueWays();
            Checks.type(y, blanks(1980 + more));
            due("feed at " + (1980 + more), y.feed(-1, -1, -1, -1, -1), NONE);
            due("bytes then", y.count(8), 1980 + more);
            due("no byte came", y.read(), 0);
        }
        RedBlueWays z = new RedBlueWays();
        Checks.type(z, blanks(1980));
        due("feed at 1980", z.feed(-1, -1, -1, -1, -1), 2000);
        due("feed at 2000", z.feed(0, 0, 0, 0, 0), NONE);
        due("and again", z.feed(0, 0, 0, 0, 0), NONE);
        due("bytes", z.count(8), 2000);
        due("read", z.read(), SYNTAX);
        due("place", z.place(), 1980);
        due("there is room again", z.feed(0x20202020, 0x20202020, 0x20202020, 0x20202020, 0x20202020), 20);
        due("what was there is gone", z.read(), 0);
    }

    private static void back() {
        CHECKS.sentence("The last n bytes of the tape go: how many it has.");
        RedBlueWays x = new RedBlueWays();
        due("back(0) of an empty tape", x.back(0), 0);
        Checks.type(x, "post a;post b;?");
        due("back(0)", x.back(0), 15);
        due("back(8)", x.back(8), 7);
        due("read", x.read(), 0);
        due("posts", x.count(0), 1);
        cut("post zzzzzzzzz;off a", 13, SYNTAX, 13);
        cut("post zzzzzzzz;off zz", 12, SYNTAX, 12);
        cut("postz;post y;post z;", 4, SYNTAX, 4);
        cut("post y;posts;post z;", 11, SYNTAX, 11);
        cut("post y;post z;post z", 14, 0, NONE);
        cut("link y z12345;post y", 12, SYNTAX, 12);
        Checks.type(x, blanks(2000));
        due("back(2000)", x.back(2000), 0);
        due("an empty text", x.read(), 0);
        due("no posts", x.count(0), 0);

        CHECKS.sentence("NONE, and nothing goes, if it has not so many, or n is below 0.");
        due("back(1) of an empty tape", x.back(1), NONE);
        Checks.type(x, "post a;");
        int[] none = {8, 9, 20, 2000, 2001, Integer.MAX_VALUE, -1, -2, -7, -8, Integer.MIN_VALUE, Integer.MIN_VALUE + 7};
        for (int n : none) {
            due("back(" + n + ")", x.back(n), NONE);
            due("bytes", x.count(8), 7);
        }
        due("back(7)", x.back(7), 0);
        due("back(1)", x.back(1), NONE);
    }

    /** Twenty bytes, of which the first ones stay: what is gone is no more of the text, nor what was there before. */
    private static void cut(String twenty, int left, int number, int place) {
        RedBlueWays x = new RedBlueWays();
        Checks.type(x, "zzzzzzzzzzzzzzzzzzzz".repeat(2));
        x.back(40);
        Checks.type(x, twenty);
        due("bytes of " + twenty, x.back(20 - left), left);
        due("read of the first " + left + " bytes of " + twenty, x.read(), number);
        due("place", x.place(), place);
    }

    private static void readAndPlace() {
        CHECKS.sentence("The tape, which is empty then, is read: 0, or the number of its FAULT.");
        RedBlueWays x = new RedBlueWays();
        due("read of an empty tape", x.read(), 0);
        Checks.type(x, "post a;");
        due("read", x.read(), 0);
        due("bytes", x.count(8), 0);
        due("posts", x.count(0), 1);
        due("read of what is empty then", x.read(), 0);
        due("posts", x.count(0), 0);
        Checks.type(x, "post");
        due("a fault", x.read(), SYNTAX);
        due("bytes behind a fault", x.count(8), 0);
        due("read of what is empty then", x.read(), 0);

        CHECKS.sentence("The byte of the latest read()'s FAULT; NONE without.");
        RedBlueWays y = new RedBlueWays();
        due("place, new", y.place(), NONE);
        Checks.type(y, "?");
        due("place ahead of read()", y.place(), NONE);
        y.read();
        due("place", y.place(), 0);
        due("place again", y.place(), 0);
        Checks.type(y, "post a;;");
        due("place, not read yet", y.place(), 0);
        y.read();
        due("place of the latest", y.place(), 7);
        y.hold(0);
        y.restore(0);
        y.undo();
        due("place stays", y.place(), 7);
        y.read();
        due("place without", y.place(), NONE);
    }

    private static void tokens() {
        CHECKS.sentence("TOKENS, the longest that can be, with blanks (9, 10, 13, 32) between or not");
        for (int b = 0; b < 256; b++) {
            boolean blank = b == 9 || b == 10 || b == 13 || b == 32;
            boolean letter = b >= 97 && b <= 122;
            String sign = String.valueOf((char) b);
            if (blank || letter) {
                due("posts with byte " + b, good("post a" + sign + ";").count(0), 1);
            } else {
                text("post a" + sign + ";", SYNTAX, b == ';' ? 7 : 6);
            }
            text("post" + sign + "a;", blank ? 0 : SYNTAX, blank ? NONE : letter ? 0 : 4);
            text("post a;" + sign, blank ? 0 : SYNTAX, blank ? NONE : 7);
        }
        good("\t\n\r post\t\n\r a\t\n\r ;\r\n\r\n");
        due("an INT right behind a NAME", good("post a;post b;link a b7;").link(0, 2), 7);
        text("post a;post b;link a b7c;", SYNTAX, 23);
        text("post a;post b;link a b 7 7;", SYNTAX, 25);
        text("post a b;", SYNTAX, 7);
        text("po st a;", SYNTAX, 0);
        text("posta;", SYNTAX, 0);
        text("postpost;", SYNTAX, 0);
        due("a NAME that begins with a word", good("post offa;off offa;").count(2), 0);
        due("a NAME of two words", good("post rootroot;root rootroot;").count(0), 1);
        for (String word : WORDS) {
            good("post " + word.substring(1) + ";");
            good("post x" + word + ";");
            good("post " + word + "x;");
        }

        CHECKS.sentence("NAMES (letters a .. z, 8 at most, none of the words in quotes)");
        for (char c = 'a'; c <= 'z'; c++) {
            good("post " + c + ";off " + c + ";");
        }
        for (String no : new String[] {"A", "Z", "_", "`", "{", "@", "[", "-", "'a", "\"a"}) {
            text("post " + no + ";", SYNTAX, 5);
        }
        StringBuilder shifted = new StringBuilder();
        StringBuilder longer = new StringBuilder();
        for (int i = 0; i < 8; i++) {
            shifted.append("post ").append("a".repeat(i)).append('b').append("a".repeat(7 - i)).append(';');
            longer.append("post ").append("a".repeat(i + 1)).append(';');
        }
        for (char c = 'a'; c <= 'z'; c++) {
            StringBuilder alike = new StringBuilder();
            for (int i = 1; i <= 8; i++) {
                alike.append("post ").append(String.valueOf(c).repeat(i)).append(';');
            }
            due("names of one letter more each", good(alike.toString()).count(0), 8);
            for (String word : WORDS) {
                for (int i = 0; i < word.length(); i++) {
                    String near = word.substring(0, i) + c + word.substring(i + 1);
                    text("post " + near + ";", near.equals(word) ? SYNTAX : 0, near.equals(word) ? 5 : NONE);
                }
            }
        }
        due("names unlike in one letter", good(shifted.toString()).count(0), 8);
        due("names unlike in length", good(longer.toString()).count(0), 8);
        due("the 8th is meant", good(longer + "root aaaaaaaa;").count(6), 7);
        text(longer + "off aaaaaaab;", NAME, longer.length() + 4);

        CHECKS.sentence("INTS (1 to 4 digits)");
        for (String one : new String[] {"1", "01", "001", "0001"}) {
            due("cost " + one, good("post a;post b;link a b " + one + ";").link(0, 2), 1);
        }
        for (char c = '1'; c <= '9'; c++) {
            due("digit " + c, good("post a;post b;link a b " + c + ";").link(0, 2), c - '0');
            due("digits 00" + c + "0", good("post a;post b;link a b 00" + c + "0;").link(0, 2), 10 * (c - '0'));
        }
        text("post a;post b;link a b -1;", SYNTAX, 23);
        text("post a;post b;link a b +1;", SYNTAX, 23);
        text("post a;post b;link a b 1.0;", SYNTAX, 24);

        CHECKS.sentence("A longer one, all else, is no TOKEN.");
        text("post aaaaaaaaa;", SYNTAX, 5);
        text("post " + "z".repeat(1500) + ";", SYNTAX, 5);
        text("postpostp", SYNTAX, 0);
        text("post a;post b;link a b 00001;", SYNTAX, 23);
        text("post a;post b;link a b 10000;", SYNTAX, 23);
        text("post a;post b;link a b 4294967297;", SYNTAX, 23);
        text("post a;post b;link a b 18446744073709551617;", SYNTAX, 23);
        text(".", SYNTAX, 0);
        text("post a:", SYNTAX, 6);
        text("post a,", SYNTAX, 6);
    }

    private static final String[][] LINES = {
        {"post", "x", ";"}, {"link", "x", "y", "7", ";"}, {"off", "x", ";"}, {"root", "x", ";"}, {"down", "x", "y", ";"}};

    private static char sort(String token) {
        for (String word : WORDS) {
            if (word.equals(token)) {
                return 'w';
            }
        }
        char first = token.charAt(0);
        boolean letters = first >= 'a' && first <= 'z' && token.length() <= 8;
        boolean digits = first >= '0' && first <= '9' && token.length() <= 4;
        return letters ? 'n' : digits ? 'i' : first == ';' ? ';' : '?';
    }

    private static void syntax() {
        CHECKS.sentence("1 SYNTAX: a TOKEN, or what is none, with which no text goes on.");
        String[] tries = {"post", "link", "off", "root", "down", "x", "zzzzzzzz", "7", "9999", ";", "?", "zzzzzzzzz", "12345", "X"};
        for (String[] line : LINES) {
            StringBuilder ahead = new StringBuilder("post x;post y; ");
            for (String due : line) {
                for (String token : tries) {
                    if (sort(token) != sort(due)) {
                        text(ahead + token, SYNTAX, ahead.length());
                        text(ahead + token + " ;post", SYNTAX, ahead.length());
                    }
                }
                ahead.append(due).append(' ');
            }
        }
        text(";", SYNTAX, 0);
        text("a", SYNTAX, 0);
        text("1", SYNTAX, 0);

        CHECKS.sentence("(a byte; the text's end: its length)");
        for (String[] line : LINES) {
            StringBuilder ahead = new StringBuilder("post x;");
            for (int i = 0; i + 1 < line.length; i++) {
                ahead.append(line[i]);
                text(ahead.toString(), SYNTAX, ahead.length());
                text(ahead + "\n\t ", SYNTAX, ahead.length() + 3);
                ahead.append(' ');
            }
        }
        text("  post", SYNTAX, 6);
        due("the end of an empty text is no fault", good("").count(0), 0);
        due("an empty one in place of another", Checks.read(Checks.of("post a;"), ""), 0);
        RedBlueWays x = Checks.of("post a;");
        x.read();
        due("no posts", x.count(0), 0);
        due("no root", x.count(6), -2);
    }

    private static String posts(int n) {
        StringBuilder out = new StringBuilder();
        for (int i = 0; i < n; i++) {
            out.append("post ").append((char) ('a' + i)).append(';');
        }
        return out.toString();
    }

    /** Links of eight posts, the first ones by their lesser post. */
    private static String links(int n) {
        StringBuilder out = new StringBuilder();
        int left = n;
        for (char a = 'a'; a <= 'h'; a++) {
            for (char b = (char) (a + 1); b <= 'h' && left > 0; b++) {
                out.append("link ").append(b).append(' ').append(a).append(' ').append(left).append(';');
                left--;
            }
        }
        return out.toString();
    }

    private static void room() {
        CHECKS.sentence("POSTS, 8 at most, LINKS, 16 at most, each numbered from 0 on as they stand.");
        RedBlueWays x = good(posts(8) + links(16));
        due("posts", x.count(0), 8);
        due("posts on", x.count(2), 255);
        due("links", x.count(1), 16);
        due("links of the net", x.count(3), 65535);
        due("link 0, its first post as told", x.link(0, 0), 1);
        due("link 0, its second", x.link(0, 1), 0);
        due("link 0, cost", x.link(0, 2), 16);
        due("link 15, its first post", x.link(15, 0), 5);
        due("link 15, its second", x.link(15, 1), 2);
        due("link 15, cost", x.link(15, 2), 1);
        due("link 16", x.link(16, 0), NONE);
        due("links ahead of posts, as they stand", good("link b a 1;post b;post a;").link(0, 0), 0);

        CHECKS.sentence("a 9th line of 'post', a 17th of 'link' (at this word)");
        text(posts(9), ROOM, 56);
        text(posts(8) + "post", ROOM, 56);
        text(posts(8) + " \n post ?", ROOM, 59);
        text(posts(8) + "post a;", ROOM, 56);
        text(posts(8) + "root a;post", ROOM, 63);
        text("post a;".repeat(9), ROOM, 56);
        text(posts(9) + "post j;?", ROOM, 56);
        text("?" + posts(9), SYNTAX, 0);
        text(posts(8) + ";post", SYNTAX, 56);
        int full = (posts(8) + links(16)).length();
        text(posts(8) + links(17), ROOM, (posts(8) + links(17)).lastIndexOf("link"));
        text(posts(8) + links(16) + "link", ROOM, full);
        text(posts(8) + links(16) + "link a ?", ROOM, full);
        text(posts(8) + links(16) + "  link a b 1;", ROOM, full + 2);
        text("link a a 0;".repeat(17), ROOM, 176);
        text(posts(8) + links(16) + "post i;link", ROOM, full);
        text(links(16) + posts(8) + "link a b 1;post i;", ROOM, full);

        CHECKS.sentence("2 ROOM: a 401st TOKEN;");
        String most = "post a;post b;link a b 1;" + "down a b;".repeat(95) + "off a;".repeat(3);
        good(most);
        good(most + blanks(30));
        text(most + ";", SYNTAX, most.length());
        text(most + "?", SYNTAX, most.length());
        text(most + "off", ROOM, most.length());
        text(most + "\toff ?", ROOM, most.length() + 1);
        text(most + "post", ROOM, most.length());
        text(most + "off a;".repeat(9), ROOM, most.length());
        String near = "off a;".repeat(133);
        text(near + "off", SYNTAX, near.length() + 3);
        text(near + "off ", SYNTAX, near.length() + 4);
        text(near + "off a", ROOM, near.length() + 4);
        text(near + "off a?", ROOM, near.length() + 4);
        text(near + "off ;", SYNTAX, near.length() + 4);
        text(near + "off off", SYNTAX, near.length() + 4);
        text(near + "?", SYNTAX, near.length());
        text(near, NAME, 4);
    }

    private static void tells() {
        CHECKS.sentence("A LINK is of two POSTS, unlike, no two LINKS of the same two; a COST 1 .. 99.");
        due("cost 1", good("post a;post b;link a b 1;").link(0, 2), 1);
        due("cost 99", good("post a;post b;link a b 99;").link(0, 2), 99);
        text("post a;post b;link a b 0;", WRONG, 23);
        text("post a;post b;link a b 100;", WRONG, 23);
        text("post a;link a a 1;", TWICE, 14);
        text("post a;post b;link a b 1;link a b 1;", TWICE, 32);
        due("links that share one post", good("post a;post b;post c;link a b 1;link c a 1;").count(1), 2);

        CHECKS.sentence("POSTS told 'off' are off (once or more), LINKS of two POSTS told 'down' are down, all others on, up;");
        RedBlueWays x = good("off a;post a;post b;post c;off a;link a b 1;link b c 2;link c a 3;down c b;down b c;off a;");
        due("posts on", x.count(2), 6);
        due("link 0 up", x.link(0, 3), 1);
        due("link 1 up", x.link(1, 3), 0);
        due("link 2 up", x.link(2, 3), 1);
        due("links of the net", x.count(3), 0);
        due("told ahead", good("down b a;link a b 1;post a;post b;").link(0, 3), 0);
        due("all off", good("post a;post b;off b;off a;").count(2), 0);
        due("all on", good(posts(8)).count(2), 255);

        CHECKS.sentence("ROOT is the last one told (without: POST 0).");
        due("without", good("post a;post b;").count(6), 0);
        due("told once", good("post a;post b;root b;").count(6), 1);
        due("told twice", good("root b;post a;post b;root a;").count(6), 0);
        due("told last, and off", good("root a;post a;post b;off b;root b;").count(6), 1);
        due("the 8th", good("root h;" + posts(8)).count(6), 7);
        due("not that of the text ahead", rootBehind("post a;post b;root b;", "post a;post b;"), 0);
        due("no posts", good("").count(6), -2);
    }

    private static int rootBehind(String first, String second) {
        RedBlueWays x = Checks.of(first);
        Checks.read(x, second);
        return x.count(6);
    }

    private static void twice() {
        CHECKS.sentence("3 TWICE: (at it) a NAME in a line of 'post' that an earlier one has told;");
        text("post a;post a;", TWICE, 12);
        text("post a;post b;post a;post b;", TWICE, 19);
        text("post a;off a;post\n\na;", TWICE, 19);
        text(posts(7) + "post g;", TWICE, 54);
        good("post a;off a;root a;off a;");

        CHECKS.sentence("(at its second NAME) a LINK of one POST and itself, or of the same two as an earlier line of 'link'");
        text("post a;link a a 1;", TWICE, 14);
        text("link a  a 1;post a;", TWICE, 8);
        text("link a a 0;post a;", TWICE, 7);
        text("link a b 1;link a b 2;post a;post b;", TWICE, 18);
        text("link a b 1;link b   a 2;post a;post b;", TWICE, 20);
        text("post a;post b;link a b 1;link b a 0;", TWICE, 32);
        text("post a;post b;link a b 1;down a b;link a b 1;", TWICE, 41);
        text("post a;post b;link a a 1;link a a 1;", TWICE, 21);

        CHECKS.sentence("(also one with a FAULT of its COST alone)");
        text("post a;post b;link a b 0;link b a 1;", WRONG, 23);
        text("post a;post b;link a b 100;link a b 0;", WRONG, 23);

        CHECKS.sentence("(one told twice is the first of the two)");
        text("link a b 1;down a b;post a;post b;post a;", TWICE, 39);
        text("post a;post a;link a a 1;", TWICE, 12);
        text("link a a 1;post a;post a;", TWICE, 7);
        text("off a;root a;post a;post a;", TWICE, 25);
    }

    private static void nameAndWrong() {
        CHECKS.sentence("4 NAME: (at it) in another line no such POST in the whole text");
        text("off a;", NAME, 4);
        text("root a;", NAME, 5);
        text("post b;root  a;", NAME, 13);
        text("post a;link a b 1;", NAME, 14);
        text("post b;link a b 1;", NAME, 12);
        text("link a b 1;", NAME, 5);
        text("link a a 1;", NAME, 5);
        text("post a;down a b;", NAME, 14);
        text("post b;down a b;", NAME, 12);
        text("down a a;", NAME, 5);
        text("post aa;off a;", NAME, 12);
        text("post a;off aa;", NAME, 11);
        text("post a;off b;off a;", NAME, 11);
        good("off a;root a;link a b 1;down b a;post b;post a;");
        RedBlueWays x = Checks.of("post a;");
        due("a POST of the text ahead is none", Checks.read(x, "off a;"), NAME);

        CHECKS.sentence("5 WRONG: (at the INT) a COST not 1 .. 99;");
        for (String wrong : new String[] {"0", "00", "000", "0000", "100", "0100", "101", "199", "999", "1000", "9999"}) {
            text("post a;post b;link a b " + wrong + ";", WRONG, 23);
            text("link a b" + wrong + ";post a;post b;", WRONG, 8);
        }
        for (String right : new String[] {"1", "01", "2", "98", "99", "099", "0099"}) {
            due("cost " + right, good("post a;post b;link a b " + right + ";").link(0, 2), Integer.parseInt(right));
        }

        CHECKS.sentence("(at the second NAME) 'down' of two POSTS of which there is no LINK in the whole text");
        text("post a;post b;down a b;", WRONG, 21);
        text("post a;post b;post c;link a b 1;link b c 1;down a c;", WRONG, 50);
        text("down b   a;post a;post b;", WRONG, 9);
        due("a LINK behind it", good("down a b;post a;post b;link b a 1;").link(0, 3), 0);
        RedBlueWays y = Checks.of("post a;post b;link a b 1;");
        due("a LINK of the text ahead is none", Checks.read(y, "post a;post b;down a b;"), WRONG);
        RedBlueWays z = Checks.of("post a;post b;");
        due("a text with a LINK, and a FAULT", Checks.read(z, "post a;post b;link a b 1;post a;"), TWICE);
        due("is not the text itself", Checks.read(z, "post a;post b;down a b;"), WRONG);

        CHECKS.sentence("(one whose COST alone is wrong is one; of a POST and itself there is none)");
        text("down a b;post a;post b;link a b 0;", WRONG, 32);
        text("down b a;post a;post b;link a b 9999;", WRONG, 32);
        text("post a;down a a;", WRONG, 14);
        text("post a;post b;link a b 1;down a a;", WRONG, 32);
        text("down a a;post a;link a a 1;", WRONG, 7);
        text("down a b;post a;post b;link a a 1;link a c 1;", WRONG, 7);
    }

    private static final String BASE = "post a;post b;post c;link a b 1;";
    /** Lines with one fault of meaning each behind BASE, its number and its place in the line. */
    private static final String[] FAULTY = {"post a;", "link b a 1;", "link c c 1;", "off z;", "root z;", "link z a 1;",
        "link a z 1;", "down z a;", "down a z;", "link a c 0;", "link c a 100;", "down b c;", "down a a;"};
    private static final int[] NUMBERS = {TWICE, TWICE, TWICE, NAME, NAME, NAME, NAME, NAME, NAME, WRONG, WRONG, WRONG, WRONG};
    private static final int[] PLACES = {5, 7, 7, 4, 5, 5, 7, 5, 7, 9, 9, 7, 7};

    private static int nth(String text, String word, int n) {
        int at = -1;
        for (int i = 0; i < n; i++) {
            at = text.indexOf(word, at + 1);
        }
        return at;
    }

    private static void firstFault() {
        CHECKS.sentence("FAULTS of a text, the first by its place");
        for (int f = 0; f < FAULTY.length; f++) {
            text(BASE + FAULTY[f], NUMBERS[f], BASE.length() + PLACES[f]);
            for (String behind : FAULTY) {
                text(BASE + FAULTY[f] + behind, NUMBERS[f], BASE.length() + PLACES[f]);
            }
        }
        text("post ?;post", SYNTAX, 5);
        text("post a;".repeat(9) + "?", ROOM, 56);
        text("?" + "post a;".repeat(9), SYNTAX, 0);
        text(posts(8) + links(16) + "post i;link", ROOM, (posts(8) + links(16)).length());

        CHECKS.sentence("of one place the least");
        text("off a;".repeat(133) + "off post", SYNTAX, 802);
        text("off a;".repeat(133) + "off post;", SYNTAX, 802);
        text("post a;post b;link a b 1;down a z;", NAME, 32);
        text("post a;down a z;", NAME, 14);
        text("link z z 0;", NAME, 5);

        CHECKS.sentence("If there is none, likewise:");
        for (String faulty : FAULTY) {
            text(BASE + faulty + "?", SYNTAX, BASE.length() + faulty.length());
            text(BASE + faulty + "off", SYNTAX, BASE.length() + faulty.length() + 3);
            String posts = BASE + faulty + "post q;".repeat(6);
            text(posts, ROOM, nth(posts, "post ", 9));
            String links = BASE + faulty + "link q q 0;".repeat(16);
            text(links, ROOM, nth(links, "link ", 17));
            String tokens = BASE + faulty + "off a;".repeat(133);
            text(tokens, ROOM, tokens.length() - restOf401(BASE + faulty));
        }
    }

    /** How far the 401st token is from the end of a text of these lines and 133 times "off a;". */
    private static int restOf401(String lines) {
        int tokens = 0;
        for (String token : lines.replace(";", " ; ").trim().split(" +")) {
            tokens += token.isEmpty() ? 0 : 1;
        }
        int inOffs = 400 - tokens;
        int[] within = {0, 4, 5};
        return 133 * 6 - (inOffs / 3 * 6 + within[inOffs % 3]);
    }

    private static RedBlueWays lived() {
        RedBlueWays x = Checks.of("post a;post b;post c;link a b 1;link b c 2;off c;root b;");
        x.join(0, false);
        x.hold(1);
        x.power(2, true);
        x.lay(0, 2, 9);
        x.learn();
        x.send(0, 1);
        x.cost(1, 7);
        return x;
    }

    private static void faultyTexts() {
        CHECKS.sentence("A text with a FAULT changes nothing but the tape;");
        String[] texts = {"post x;post y;link x y 5;off x;;", "post x;".repeat(9), "post x;root x;post x;", "post x;off x;off y;",
            "post x;post y;root y;link x y 0;", "post x;post y;down x y;", "post x", "?"};
        int[] numbers = {SYNTAX, ROOM, TWICE, NAME, WRONG, WRONG, SYNTAX, SYNTAX};
        for (int i = 0; i < texts.length; i++) {
            for (int undone = 0; undone < 4; undone++) {
                RedBlueWays x = lived();
                RedBlueWays y = lived();
                due("read of " + texts[i], Checks.read(x, texts[i]), numbers[i]);
                due("the tape is empty", x.count(8), 0);
                for (int k = 0; k < undone; k++) {
                    due("undo", x.undo(), y.undo());
                }
                rows("behind " + texts[i] + ", undone " + undone, Ask.all(x), Ask.all(y));
            }
            RedBlueWays x = lived();
            RedBlueWays y = lived();
            Checks.read(x, texts[i]);
            due("the slot", x.restore(1), true);
            y.restore(1);
            rows("restored, behind " + texts[i], Ask.all(x), Ask.all(y));
        }
    }

    private static void goodTexts() {
        CHECKS.sentence("else it is in place of the one ahead, and LEARNT at once; nothing can be undone, SLOTS hold nothing.");
        String[] texts = {"", "post x;", "post x;post y;link x y 5;", "post a;post b;post c;link a b 1;link b c 2;off c;root b;"};
        for (String text : texts) {
            RedBlueWays x = lived();
            due("things that can be undone ahead of " + text, x.count(9), 6);
            due("slots ahead of it", x.count(10), 1);
            due("read", Checks.read(x, text), 0);
            rows("as on a new object", Ask.all(x), Ask.all(Checks.of(text)));
            due("learn", x.learn(), false);
            due("undo", x.undo(), false);
            due("things that can be undone", x.count(9), 0);
            due("slots", x.count(10), 0);
            for (int slot = 0; slot < 3; slot++) {
                due("restore", x.restore(slot), false);
            }
        }
        RedBlueWays z = Checks.of("post a;post b;post c;link a b 1;link b c 1;down a b;down b c;off a;off b;off c;root c;");
        due("a fault behind 'off', 'down' and 'root'", Checks.read(z, "post a;post b;link a b 1;off a;root b;down a b;off z;"), NAME);
        due("read", Checks.read(z, "post a;post b;post c;link b a 3;link c b 4;"), 0);
        rows("nothing of the texts ahead", new int[] {z.count(2), z.count(3), z.count(6), z.link(0, 3), z.link(1, 3), z.link(0, 2)},
                7, 3, 0, 1, 1, 3);
        RedBlueWays y = Checks.of("post a;post b;link a b 1;off a;");
        due("learnt as it is told", y.count(5), 2);
        due("and its links", y.count(4), 0);
    }

    public static void main(String[] args) {
        CHECKS.sentence("`RedBlueWays()`: No POSTS.");
        RedBlueWays x = new RedBlueWays();
        due("posts", x.count(0), 0);
        due("bytes", x.count(8), 0);
        rows("as an empty text", Ask.all(x), Ask.all(Checks.of("")));
        tape();
        back();
        readAndPlace();
        tokens();
        syntax();
        room();
        tells();
        twice();
        nameAndWrong();
        firstFault();
        faultyTexts();
        goodTexts();
        CHECKS.end();
    }
}
