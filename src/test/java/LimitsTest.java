import com.sun.management.ThreadMXBean;
import java.lang.management.ManagementFactory;
import java.lang.reflect.Array;
import java.lang.reflect.Field;
import java.lang.reflect.Method;
import java.lang.reflect.Modifier;
import java.util.ArrayList;
import java.util.Collections;
import java.util.IdentityHashMap;
import java.util.List;
import java.util.Random;
import java.util.Set;

/** Full books, wild arguments in all states, and what the objects of a run need. */
public final class LimitsTest {
    private static final Check CHECK = new Check("LimitsTest");
    /** The room of one run. */
    private static final int ROOM_OBJECTS = 600_000;
    private static final int ROOM_ELEMENTS = 7_300_000;

    private LimitsTest() {
    }

    public static void main(String[] arguments) throws ReflectiveOperationException {
        for (String[] book : FullBooks.all()) {
            queriesOfFullBook(book);
        }
        wildCalls();
        room();
        noObjectsByCalls();
        CHECK.finish();
    }

    /** Repeats within repeats take no longer than others. */
    private static void queriesOfFullBook(String[] book) {
        TextRows x = Books.of(64, book);
        int n = x.count(0);
        for (String query : new String[] {".*", "(a|b)*", "(.?){99}", ".{0,99}.?.*", "a{99}.{20}.*", "((a*)*|b)*",
            "[^a]+", "(((((.*)*)+)*)+)*"}) {
            int found = Books.answer(x, query);
            CHECK.holds(query + " is answered", found >= 0);
            if (query.equals(".*") || query.equals("(((((.*)*)+)*)+)*")) {
                CHECK.due(query + ": all but the ENDs match", found, n - book.length);
            }
        }
    }

    /** No call throws, whatever came before it; also behind the 512th. */
    private static void wildCalls() throws ReflectiveOperationException {
        List<Method> face = Both.face();
        int[] edges = {0, 1, -1, -2, 2, 3, 19, 20, 21, 39, 40, 41, 63, 64, 65, 120, 199, 200, 255, 256, 2979, 2980,
            2999, 3000, 3001, Integer.MAX_VALUE, Integer.MAX_VALUE - 1, Integer.MIN_VALUE, Integer.MIN_VALUE + 1};
        for (int seed = 0; seed < 60; seed++) {
            Random random = new Random(seed);
            TextRows x = new TextRows();
            if (seed % 3 == 0) {
                Books.write(x, "a".repeat(random.nextInt(2999)), "ab".repeat(random.nextInt(200)), "");
                x.build(1 + random.nextInt(64));
            }
            for (int i = 0; i < 4000; i++) {
                Method method = face.get(random.nextInt(face.size()));
                Object[] arguments = new Object[method.getParameterCount()];
                for (int k = 0; k < arguments.length; k++) {
                    int kind = random.nextInt(3);
                    int number = kind == 0 ? edges[random.nextInt(edges.length)]
                            : kind == 1 ? random.nextInt(130) : random.nextInt();
                    arguments[k] = method.getParameterTypes()[k] == boolean.class ? (Object) random.nextBoolean()
                            : (Object) number;
                }
                if (!method.getName().equals("clear") || random.nextInt(20) == 0) {
                    method.invoke(x, arguments);
                }
            }
            CHECK.holds("the object still answers", x.count(9) >= 0);
        }
    }

    private static void room() throws ReflectiveOperationException {
        TextRows x = Books.of(3, "a".repeat(2999));
        Books.answer(x, "(a|b){60}");
        long[] counts = new long[2];
        countIn(x, counts, Collections.newSetFromMap(new IdentityHashMap<>()));
        System.out.println("an object needs " + counts[0] + " objects and arrays, " + counts[1]
                + " fields and elements");
        CHECK.holds("fifty objects find room together, in objects", counts[0] * 50 < ROOM_OBJECTS);
        CHECK.holds("fifty objects find room together, in elements", counts[1] * 50 < ROOM_ELEMENTS);
    }

    private static void countIn(Object object, long[] counts, Set<Object> seen) throws ReflectiveOperationException {
        if (object == null || !seen.add(object)) {
            return;
        }
        counts[0]++;
        if (object.getClass().isArray()) {
            counts[1] += Array.getLength(object);
            return;
        }
        for (Field field : object.getClass().getDeclaredFields()) {
            if (!Modifier.isStatic(field.getModifiers())) {
                counts[1]++;
                field.setAccessible(true);
                if (!field.getType().isPrimitive()) {
                    countIn(field.get(object), counts, seen);
                }
            }
        }
    }

    /** Only the constructor makes objects, so a run needs no more room than its new objects. */
    private static void noObjectsByCalls() {
        TextRows x = Books.of(3, "mississippi".repeat(40), "", "sip");
        ThreadMXBean threads = (ThreadMXBean) ManagementFactory.getThreadMXBean();
        long thread = Thread.currentThread().getId();
        int sum = allCalls(x);
        long before = threads.getThreadAllocatedBytes(thread);
        for (int i = 0; i < 300; i++) {
            sum += allCalls(x);
        }
        long made = threads.getThreadAllocatedBytes(thread) - before;
        CHECK.holds("terms, \"All memory is the class's own, made once.\": calls make none (" + made + " bytes, " + sum
                + ")", made < 10_000);
    }

    private static int allCalls(TextRows x) {
        int sum = x.clear() + x.feed(0x61626162, 0x61626361, 0x61626162, 1, 2) + x.end(12) + x.cut() + x.build(3);
        sum += x.place(1) + x.row(1) + x.shared(1) + x.before(1) + x.step(1) + x.rank(97, 3) + x.select(97, 1);
        sum += x.byteAt(1) + x.document(0, 1) + x.alike(0, 2) + x.begin() + x.grow(97) + x.front(98) + x.back();
        sum += x.pattern(1) + x.patternByte(0) + x.at(0) + x.sorted(0) + x.more(true, 0) + x.ranked(0) + x.times(0);
        sum += x.take(0, 2) + x.near(1) + x.nearOf(0, 1) + x.ask('(') + x.ask('a') + x.ask('|') + x.ask('b');
        sum += x.ask(')') + x.ask('{') + x.ask('9') + x.ask('}') + x.answer() + x.answered(0, 1);
        sum += x.different(0) + x.kth(3) + x.order() + x.repeated(2) + x.common(1) + x.oftenest(2) + x.unique(1);
        sum += x.maximal(0) + x.absent(3) + x.factor(0, 1, 2) + x.word(0, 1) + x.square(0) + x.mirror(0);
        return sum + x.match(0, 0) + x.count(4) + x.unwound(0, 1);
    }
}
