import com.sun.management.ThreadMXBean;
import java.lang.management.ManagementFactory;
import java.lang.reflect.Array;
import java.lang.reflect.Field;
import java.lang.reflect.Modifier;
import java.util.ArrayDeque;
import java.util.Collections;
import java.util.Deque;
import java.util.IdentityHashMap;
import java.util.Set;

/** All calls of a run share one room that is never tidied: an object is small, and its calls make nothing. */
public final class RoomTest {
    private static final int ELEMENTS_MOST = 300000;
    private static final int OBJECTS_MOST = 100;
    /** What the machine itself may make beside the calls (loading a class, say). */
    private static final long BYTES_MOST = 4096;

    private static int calls;

    public static void main(String[] args) throws IllegalAccessException {
        boolean right = isSmall(new PipelineBelt());
        int[][] stages = stages();
        ThreadMXBean threads = (ThreadMXBean) ManagementFactory.getThreadMXBean();
        // The machine makes its own things the first time.
        long before = threads.getCurrentThreadAllocatedBytes();
        allCalls(new PipelineBelt(), stages);
        PipelineBelt x = new PipelineBelt();
        before = threads.getCurrentThreadAllocatedBytes();
        allCalls(x, stages);
        long made = threads.getCurrentThreadAllocatedBytes() - before;
        System.out.println(calls + " calls make " + made + " bytes");
        right &= made <= BYTES_MOST;
        if (!right) {
            System.out.println("that is too much");
            System.exit(1);
        }
    }

    /** As many rounds as the calls of one object go. */
    private static void allCalls(PipelineBelt x, int[][] stages) {
        calls = 0;
        int each = 0;
        while (calls + each <= Run.CALLS_MOST) {
            int before = calls;
            round(x, stages);
            each = calls - before;
        }
    }

    private static boolean isSmall(PipelineBelt x) throws IllegalAccessException {
        Set<Object> seen = Collections.newSetFromMap(new IdentityHashMap<>());
        Deque<Object> open = new ArrayDeque<>();
        open.add(x);
        long elements = 0;
        while (!open.isEmpty()) {
            Object o = open.remove();
            if (!seen.add(o)) {
                continue;
            }
            if (o.getClass().isArray()) {
                elements += Array.getLength(o);
                if (o instanceof Object[] parts) {
                    Collections.addAll(open, parts);
                }
                continue;
            }
            for (Field f : o.getClass().getDeclaredFields()) {
                if (!Modifier.isStatic(f.getModifiers())) {
                    elements++;
                    f.setAccessible(true);
                    if (!f.getType().isPrimitive() && f.get(o) != null) {
                        open.add(f.get(o));
                    }
                }
            }
        }
        System.out.println("an object has " + seen.size() + " objects and " + elements + " fields and elements");
        return seen.size() <= OBJECTS_MOST && elements <= ELEMENTS_MOST;
    }

    private static int[][] stages() {
        String[] stages = {"{$lookup:{here:\"k\", there:\"k\", as:\"o\"}}", "{$project:{k:true, o:true, x:\"$o.v.w\"}}",
            "{$sort:{k:-1, x:1}}", "{$unwind:\"$x\"}", "{$skip:1}", "{$limit:9}",
            "{$group:{by:\"$k\", n:{$count:null}, s:{$sum:\"$x\"}, p:{$push:\"$x\"}, m:{$max:\"$o.v\"}, a:{$addToSet:\"$x\"}}}",
            "{$no:1}", "{$sort:1}", "{$unwind:\"$\"}"};
        int[][] all = new int[stages.length + 1][];
        all[0] = numbers("{k:1, v:[{w:1}, {w:2}, {w:3}]}");
        for (int i = 0; i < stages.length; i++) {
            all[i + 1] = numbers(stages[i]);
        }
        return all;
    }

    /** How many bytes, and the numbers to feed for them. */
    private static int[] numbers(String notation) {
        byte[] b = Tree.encode(Tree.doc(notation));
        int[] n = new int[1 + (b.length + 19) / 20 * 5];
        n[0] = b.length;
        for (int i = 0; i < b.length; i++) {
            n[1 + i / 4] |= (b[i] & 255) << 24 - i % 4 * 8;
        }
        return n;
    }

    private static void round(PipelineBelt x, int[][] stages) {
        for (int i = 0; i < 8; i++) {
            x.put(i % 2, feed(x, stages[0]));
        }
        for (int i = 1; i < stages.length; i++) {
            x.stage(feed(x, stages[i]));
        }
        x.many(0, 1);
        x.size(0, 0);
        x.byteAt(0, 0, 0);
        x.swap();
        x.clear(0);
        x.clear(1);
        calls += 8 + stages.length - 1 + 6;
    }

    private static int feed(PipelineBelt x, int[] n) {
        for (int i = 1; i + 4 < n.length; i += 5) {
            x.feed(n[i], n[i + 1], n[i + 2], n[i + 3], n[i + 4]);
            calls++;
        }
        return n[0];
    }
}
