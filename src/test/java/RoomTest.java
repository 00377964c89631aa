import java.lang.management.ManagementFactory;
import java.lang.reflect.Array;
import java.lang.reflect.Field;
import java.lang.reflect.Modifier;
import java.util.IdentityHashMap;
import java.util.Map;

/** All rows are made by the constructor: one object and its 512 dearest calls stay small. */
public final class RoomTest {
    private static int fields = 0;

    public static void main(String[] args) throws IllegalAccessException {
        Bench bench = dearest();
        Map<Object, Boolean> before = reach(bench.x);
        int fieldsBefore = fields;
        Check.equal("some 600,000 objects in all: few of them are one bench's", true, before.size() < 100);
        Check.equal("some 7.3 million fields and elements: few of them are one bench's", true, fieldsBefore < 100000);
        runAll(bench, 50);
        Map<Object, Boolean> after = reach(bench.x);
        Check.equal("calls keep no object", before.size(), after.size());
        Check.equal("calls keep no field or element", fieldsBefore, fields);
        checkNothingMade(bench);
        Check.finish();
    }

    /** An object whose registers are as long and full of parts as they can be. */
    private static Bench dearest() {
        StringBuilder names = new StringBuilder();
        for (int n = 0; n < 500; n++) {
            names.append(n == 0 ? "" : ",").append('"').append((n * 7) % 500).append("\":0");
        }
        Bench bench = new Bench().put(0, "{" + names + "}").put(1, "[" + Bench.times(600, "[]", ",") + "]");
        bench.put(2, "[\"7\"]").put(3, "[[\"1\"],[\"2\"],[\"3\"],[{}],[\"499\"]]");
        return bench.put(4, "[600]").put(5, "[[0],[1],[{\"start\":3}],[2]]");
    }

    private static void runAll(Bench bench, int times) {
        for (int n = 0; n < times; n++) {
            bench.x.print(0);
            bench.x.get(6, 0, 2);
            bench.x.set(6, 0, 2, 2);
            bench.x.set(6, 7, 4, 2);
            bench.x.del(6, 1, 5);
            bench.x.all(6, 1);
            bench.x.same(0, 0);
            bench.x.same(0, 1);
            bench.x.word(8);
            bench.x.count(1);
            bench.x.feed(0x5B5B5D5D, 0x20202020, 0x20202020, 0x20202020, 0x20202020);
            bench.x.end(4);
            bench.x.read(6);
        }
    }

    private static void checkNothingMade(Bench bench) {
        if (ManagementFactory.getThreadMXBean() instanceof com.sun.management.ThreadMXBean threads) {
            runAll(bench, 50);
            long before = threads.getCurrentThreadAllocatedBytes();
            runAll(bench, 200);
            long made = threads.getCurrentThreadAllocatedBytes() - before;
            Check.equal("2600 calls make no more than " + made + " bytes", true, made < 2600);
        }
    }

    private static Map<Object, Boolean> reach(Object root) throws IllegalAccessException {
        Map<Object, Boolean> found = new IdentityHashMap<>();
        fields = 0;
        reachFrom(root, found);
        return found;
    }

    private static void reachFrom(Object object, Map<Object, Boolean> found) throws IllegalAccessException {
        if (object == null || found.put(object, true) != null) {
            return;
        }
        if (object.getClass().isArray()) {
            fields += Array.getLength(object);
            for (int n = 0; !object.getClass().getComponentType().isPrimitive() && n < Array.getLength(object); n++) {
                reachFrom(Array.get(object, n), found);
            }
            return;
        }
        for (Field field : object.getClass().getDeclaredFields()) {
            if (!Modifier.isStatic(field.getModifiers())) {
                fields++;
                field.setAccessible(true);
                if (!field.getType().isPrimitive()) {
                    reachFrom(field.get(object), found);
                }
            }
        }
    }
}
