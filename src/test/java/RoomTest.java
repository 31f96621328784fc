import com.sun.management.ThreadMXBean;
import java.lang.management.ManagementFactory;
import java.lang.reflect.Array;
import java.lang.reflect.Field;
import java.lang.reflect.Modifier;
import java.util.IdentityHashMap;
import java.util.Map;

/** All calls of one run live in one room: a new object is small, and no later call makes anything. */
final class RoomTest {
    private static final int OBJECTS = 600_000;
    private static final int ELEMENTS = 7_300_000;
    private static final int CALLS = 512;
    private static final Due due = new Due();
    private static int objects;
    private static int elements;

    public static void main(String[] args) throws Exception {
        due.about = "room";
        count(new HedgeCheck(), new IdentityHashMap<>());
        System.out.println("a new object is " + objects + " objects and arrays with " + elements + " fields and elements");
        due.is("objects of " + CALLS + " new ones fit", objects * CALLS <= OBJECTS, true);
        due.is("elements of " + CALLS + " new ones fit", elements * CALLS <= ELEMENTS, true);
        callAll();
        ThreadMXBean threads = (ThreadMXBean) ManagementFactory.getThreadMXBean();
        long id = Thread.currentThread().getId();
        threads.getThreadAllocatedBytes(id);
        long before = threads.getThreadAllocatedBytes(id);
        for (int k = 0; k < 20; k++) {
            callAll();
        }
        long after = threads.getThreadAllocatedBytes(id);
        due.is("bytes made by calls", after - before < 10_000, true);
        Due.end();
    }

    private static void count(Object object, Map<Object, Boolean> seen) throws Exception {
        if (object == null || seen.put(object, true) != null) {
            return;
        }
        objects++;
        if (object.getClass().isArray()) {
            elements += Array.getLength(object);
            for (int k = 0; !object.getClass().getComponentType().isPrimitive() && k < Array.getLength(object); k++) {
                count(Array.get(object, k), seen);
            }
            return;
        }
        for (Field field : object.getClass().getDeclaredFields()) {
            if (!Modifier.isStatic(field.getModifiers())) {
                elements++;
                field.setAccessible(true);
                if (!field.getType().isPrimitive()) {
                    count(field.get(object), seen);
                }
            }
        }
    }

    private static final String[] TEXTS = {"A=a[A]*b[B]?", "B=#B|a[A]", "C=a[B]A|", "f:A>B/a[A]A-a[x]f(y)/.-a[]/b[B]A-g(x)",
        "g:B>B/#B-#a[g(y)]/a[A]B-x/a[A]A-y", "A=###A|", "B=#############B|", "A=[", "f:A>A/.-x"};
    private static final String[] HEDGES = {"a[b[1a[]]]b[2a[]]", "", "a[]a[]0", "a["};

    private static void callAll() {
        HedgeCheck h = due.h;
        for (String text : TEXTS) {
            type(h, text);
            h.enter();
            for (String hedge : HEDGES) {
                type(h, hedge);
                h.read();
                askAll(h);
            }
        }
    }

    private static void type(HedgeCheck h, String text) {
        h.clear();
        for (int k = 0; k < text.length(); k++) {
            h.type(text.charAt(k));
        }
    }

    private static void askAll(HedgeCheck h) {
        h.kinds();
        for (int one = -1; one <= 6; one++) {
            h.valid(one);
            h.least(one);
            h.uncovered(one);
            h.useless(one);
            h.wrong(one);
            h.safe(one);
            h.run(one);
            h.valueValid(one);
            h.text(one);
            h.value(one);
            h.differ(one, 1);
            h.show(one, 2);
        }
        h.size();
        h.valueSize();
        h.take();
    }
}
