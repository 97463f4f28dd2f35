import java.lang.management.ManagementFactory;
import java.lang.reflect.Array;
import java.lang.reflect.Field;
import java.lang.reflect.Modifier;
import java.util.ArrayList;
import java.util.List;

/** All calls of a run live in one room: an object takes its part when it is made, and no more. */
public final class RoomTest {
    /** A run has one object, or a few; these leave room for a thousand. */
    private static final int MOST_OBJECTS = 600;
    private static final int MOST_ELEMENTS = 7_300;

    private static final com.sun.management.ThreadMXBean THREADS =
        (com.sun.management.ThreadMXBean) ManagementFactory.getThreadMXBean();

    private static int elements = 0;

    public static void main(String[] args) throws ReflectiveOperationException {
        Checks.sentence("All calls of one run live in ONE room");
        BassRealiser fresh = new BassRealiser();
        int objects = reachable(fresh).size();
        Checks.must(objects <= MOST_OBJECTS, "a new object holds " + objects + " objects and arrays");
        Checks.must(elements <= MOST_ELEMENTS, "a new object holds " + elements + " fields and elements");

        long before = taken();
        BassRealiser other = new BassRealiser();
        Checks.must(taken() > before, "what is taken can't be seen on this machine");
        // Here the machine loads what it needs itself, so that only the calls are seen after it.
        allCalls(other);
        before = taken();
        allCalls(fresh);
        long later = taken() - before;
        Checks.must(later == 0, "the calls of a run took " + later + " bytes");
        Checks.end("room");
    }

    private static long taken() {
        return THREADS.getThreadAllocatedBytes(Thread.currentThread().getId());
    }

    /** Every call of the face, on twelve chords, answered and refused. */
    private static void allCalls(BassRealiser x) {
        x.less();
        x.solve();
        for (int i = 0; i < 13; i++) {
            x.chord(i % 7, 2 + i % 2, 0);
            x.figure(i, 7, 0);
            x.figure(i, 9, i % 4);
            x.figure(i, 2, 0);
            x.plain(i);
        }
        for (int fifths = -8; fifths <= 8; fifths++) {
            x.key(fifths);
            x.solve();
            x.many();
        }
        x.range(0, 60, 84);
        x.range(1, 50, 74);
        x.range(2, 45, 69);
        x.home(0, 70);
        x.leap(24);
        for (int i = -1; i < 13; i++) {
            x.given(i, 0, 72);
            x.voicings(i);
            x.given(i, 0, -1);
            x.bass(i);
            x.worked(i, 1, 4);
            x.voicing(i, 3, 1);
            x.note(i, 2);
            x.sing(i, x.note(i, 0), x.note(i, 1), x.note(i, 2));
            x.fault(i);
        }
        x.sung();
        for (int what = -1; what <= 15; what++) {
            x.count(what);
        }
        x.less();
    }

    /** What an object holds, itself included; fields and elements are counted on the way. */
    private static List<Object> reachable(Object root) throws ReflectiveOperationException {
        List<Object> found = new ArrayList<>();
        found.add(root);
        for (int k = 0; k < found.size(); k++) {
            Object one = found.get(k);
            if (one.getClass().isArray()) {
                addElements(one, found);
            } else {
                addFields(one, found);
            }
        }
        return found;
    }

    private static void addElements(Object array, List<Object> found) {
        elements += Array.getLength(array);
        if (array instanceof Object[] parts) {
            for (Object part : parts) {
                addOnce(part, found);
            }
        }
    }

    private static void addFields(Object one, List<Object> found) throws ReflectiveOperationException {
        for (Field field : one.getClass().getDeclaredFields()) {
            if (Modifier.isStatic(field.getModifiers())) {
                continue;
            }
            elements++;
            if (!field.getType().isPrimitive()) {
                field.setAccessible(true);
                addOnce(field.get(one), found);
            }
        }
    }

    private static void addOnce(Object part, List<Object> found) {
        for (Object one : found) {
            if (one == part) {
                return;
            }
        }
        if (part != null) {
            found.add(part);
        }
    }
}
