import java.lang.management.ManagementFactory;
import java.lang.reflect.Array;
import java.lang.reflect.Constructor;
import java.lang.reflect.Field;
import java.lang.reflect.Method;
import java.lang.reflect.Modifier;
import java.nio.file.Files;
import java.nio.file.Path;
import java.util.ArrayDeque;
import java.util.Collections;
import java.util.Deque;
import java.util.IdentityHashMap;
import java.util.Set;
import java.util.TreeSet;
import java.util.regex.Matcher;
import java.util.regex.Pattern;

/** The face, the rules of the language that can be looked at from outside, and the room. */
public final class RulesTest {
    private static final Checks CHECKS = new Checks("RulesTest");
    private static final String FACE = "feed:int:5 back:int:1 read:int:0 place:int:0 join:boolean:2 cost:boolean:2"
            + " power:boolean:2 lay:int:3 learn:boolean:0 send:int:2 undo:boolean:0 link:int:2 piece:int:2 block:int:2"
            + " cuts:int:1 bridges:int:1 head:int:2 last:int:2 order:int:3 hop:int:3 way:int:4 both:int:2 search:int:3"
            + " ear:int:4 would:int:3 loss:int:2 weak:int:2 load:int:1 cheap:int:2 pair:int:2 dear:int:3 grow:int:1"
            + " hold:boolean:1 restore:boolean:1 count:int:1";

    private static void face() {
        Set<String> want = new TreeSet<>(Set.of(FACE.split(" ")));
        Set<String> got = new TreeSet<>();
        Set<String> names = new TreeSet<>();
        for (Method m : RedBlueWays.class.getDeclaredMethods()) {
            if (!Modifier.isPrivate(m.getModifiers())) {
                got.add(m.getName() + ":" + m.getReturnType().getName() + ":" + m.getParameterCount());
                names.add(m.getName());
            }
        }
        CHECKS.due("the face is " + got, got.equals(want), true);
        CHECKS.due("a final class", Modifier.isFinal(RedBlueWays.class.getModifiers()), true);
        Constructor<?>[] made = RedBlueWays.class.getDeclaredConstructors();
        CHECKS.due("constructors", made.length, 1);
        CHECKS.due("a public one", Modifier.isPublic(made[0].getModifiers()), true);
        for (Field f : RedBlueWays.class.getDeclaredFields()) {
            CHECKS.due("field " + f, Modifier.isPrivate(f.getModifiers()), !f.getName().equals("NONE"));
        }
        for (Class<?> c : RedBlueWays.class.getDeclaredClasses()) {
            CHECKS.due("static " + c, Modifier.isStatic(c.getModifiers()), true);
            CHECKS.due("fields of " + c, c.getDeclaredFields().length <= 26, true);
            for (Method m : c.getDeclaredMethods()) {
                CHECKS.due("a name of the face: " + m, names.contains(m.getName()), false);
            }
        }
        for (Method m : RedBlueWays.class.getDeclaredMethods()) {
            boolean hidden = Modifier.isPrivate(m.getModifiers());
            CHECKS.due("a name of the face: " + m, hidden && names.contains(m.getName()), false);
        }
        CHECKS.due("classes inside", RedBlueWays.class.getDeclaredClasses().length <= 12, true);
    }

    private static void words() throws Exception {
        String source = Files.readString(Path.of("src/main/java/RedBlueWays.java"));
        String code = source.replaceAll("(?s)/\\*.*?\\*/", " ").replaceAll("//[^\n]*", " ").replaceAll("\"[^\"\n]*\"", "\"\"");
        String[] barred = {"throw", "throws", "try", "catch", "finally", "synchronized", "assert", "import", "package",
            "protected", "volatile", "native", "yield", "var", "hashCode", "toString", "System", "Exception"};
        for (String word : barred) {
            CHECKS.due("the word " + word, Pattern.compile("\\b" + word + "\\b").matcher(code).find(), false);
        }
        CHECKS.due("no lambda, no reference to a method", code.contains("->") || code.contains("::"), false);
        CHECKS.due("signs 1 to 127", source.chars().allMatch(c -> c > 0 && c < 128), true);
        CHECKS.due("no package-visible class outside", Pattern.compile("(?m)^(public )?(final )?class").matcher(code).results().count(), 1);
        Matcher loop = Pattern.compile("\\b(while|do)\\b").matcher(code);
        CHECKS.due("loops have counters", loop.find(), false);
    }

    /** Counts the objects, and the fields and elements, that hang on an object. */
    private static long[] room(Object from) throws Exception {
        Set<Object> seen = Collections.newSetFromMap(new IdentityHashMap<>());
        Deque<Object> open = new ArrayDeque<>();
        open.add(from);
        seen.add(from);
        long cells = 0;
        while (!open.isEmpty()) {
            Object o = open.poll();
            Class<?> c = o.getClass();
            if (c.isArray()) {
                cells += Array.getLength(o);
                for (int i = 0; i < Array.getLength(o) && !c.getComponentType().isPrimitive(); i++) {
                    note(Array.get(o, i), seen, open);
                }
                continue;
            }
            for (Field f : c.getDeclaredFields()) {
                if (!Modifier.isStatic(f.getModifiers())) {
                    cells++;
                    f.setAccessible(true);
                    if (!f.getType().isPrimitive()) {
                        note(f.get(o), seen, open);
                    }
                }
            }
        }
        return new long[] {seen.size(), cells};
    }

    private static void note(Object o, Set<Object> seen, Deque<Object> open) {
        if (o != null && !(o instanceof String) && seen.add(o)) {
            open.add(o);
        }
    }

    private static int sum;

    private static void everyCall(RedBlueWays x, int i) {
        int a = i % 8;
        int b = i * 3 % 8;
        x.feed(0x706f7374, 0x20612020, 0x20202020, 0x20202020, 0x2020203b);
        sum += x.back(20) + x.place() + x.link(a, 2) + x.piece(i & 1, a) + x.block(i & 1, a) + x.cuts(i & 1) + x.bridges(i & 1);
        x.join(b, (i & 2) == 0);
        x.cost(a, 1 + i % 99);
        x.power(a, (i & 4) == 0);
        x.lay(a, b, 5);
        x.learn();
        sum += x.send(a, b) + x.head(a, b) + x.last(a, b) + x.order(a, b, 1) + x.hop(a, b, 0) + x.way(a, b, 1, 0) + x.both(a, b);
        sum += x.search(a, b, 2) + x.ear(a, b, 0, 1) + x.would(a, b, 1) + x.loss(a, b) + x.weak(a, b) + x.load(a);
        sum += x.cheap(a, b) + x.pair(a, b) + x.dear(a, b, 0) + x.grow(0);
        x.hold(i % 3);
        x.undo();
        if (i % 16 == 0) {
            x.restore(i % 3);
        }
        for (int what = 0; what < 16; what++) {
            sum += x.count(what);
        }
    }

    private static void rooms() throws Exception {
        String text = "post a;post b;post c;post d;post e;post f;post g;post h;link a b 1;link b c 1;link c d 1;link d e 1;"
                + "link e f 1;link f g 1;link g h 1;link h a 1;link a e 1;link b f 1;";
        long[] made = room(new RedBlueWays());
        CHECKS.due("objects of a new one: " + made[0], made[0] <= 600000 / 512, true);
        CHECKS.due("fields and elements of a new one: " + made[1], made[1] <= 7300000 / 512, true);
        RedBlueWays x = Checks.of(text);
        for (int i = 0; i < 512; i++) {
            everyCall(x, i);
        }
        Checks.read(x, text);
        long[] used = room(x);
        CHECKS.due("objects after many calls", used[0], made[0]);
        CHECKS.due("fields and elements after many calls", used[1], made[1]);
        com.sun.management.ThreadMXBean meter = (com.sun.management.ThreadMXBean) ManagementFactory.getThreadMXBean();
        long id = Thread.currentThread().getId();
        meter.getThreadAllocatedBytes(id);
        long before = meter.getThreadAllocatedBytes(id);
        for (int i = 0; i < 512; i++) {
            everyCall(x, i);
        }
        long bytes = meter.getThreadAllocatedBytes(id) - before;
        CHECKS.due("calls make nothing, but made bytes: " + bytes, bytes < 4096, true);
    }

    public static void main(String[] args) throws Exception {
        face();
        words();
        rooms();
        CHECKS.end();
    }
}
