import com.sun.management.ThreadMXBean;
import java.lang.management.ManagementFactory;
import java.lang.reflect.Array;
import java.lang.reflect.Field;
import java.lang.reflect.Modifier;
import java.util.ArrayDeque;
import java.util.Collections;
import java.util.Deque;
import java.util.IdentityHashMap;
import java.util.Set;

/** All calls of a run live in one room: an object is small, and no call but one that throws makes anything. */
public final class RoomTest {
    private static int wrong = 0;

    public static void main(String[] args) throws IllegalAccessException {
        isSmall();
        makesNothing(2);
        makesNothing(3);
        System.out.println(wrong == 0 ? "the room is large enough" : "the room is too small");
        if (wrong != 0) {
            System.exit(1);
        }
    }

    private static void atMost(String what, long got, long most) {
        if (got > most) {
            wrong++;
            System.out.println(what + ": " + got + ", at most " + most);
        }
    }

    private static void isSmall() throws IllegalAccessException {
        Set<Object> seen = Collections.newSetFromMap(new IdentityHashMap<>());
        Deque<Object> open = new ArrayDeque<>();
        open.add(new Polymorphium());
        long elements = 0;
        while (!open.isEmpty()) {
            Object next = open.remove();
            if (!seen.add(next)) {
                continue;
            }
            if (next.getClass().isArray()) {
                elements += Array.getLength(next);
                for (int i = 0; !next.getClass().getComponentType().isPrimitive() && i < Array.getLength(next); i++) {
                    open.add(Array.get(next, i));
                }
                continue;
            }
            for (Field field : next.getClass().getDeclaredFields()) {
                if (!Modifier.isStatic(field.getModifiers())) {
                    field.setAccessible(true);
                    elements++;
                    if (!field.getType().isPrimitive()) {
                        open.add(field.get(next));
                    }
                }
            }
        }
        atMost("objects", seen.size(), 80);
        atMost("elements", elements, 3000);
    }

    private static void makesNothing(int many) {
        ThreadMXBean threads = (ThreadMXBean) ManagementFactory.getThreadMXBean();
        Polymorphium p = new Polymorphium();
        // Once before, since the machine makes things of its own at the first time.
        play(new Polymorphium(), many);
        long before = threads.getCurrentThreadAllocatedBytes();
        play(p, many);
        long made = threads.getCurrentThreadAllocatedBytes() - before;
        atMost("bytes with " + many, made, 2000);
    }

    private static void play(Polymorphium p, int many) {
        p.values(many);
        p.relation(2);
        p.tuple(0, 1, true);
        p.tuple(0, 2, true);
        for (int what = 0; what < 5; what++) {
            p.make(what);
            p.keeps(what, 0);
            p.breaks(what, 0);
            p.closed(what, 0);
            p.has(what, what);
            p.code(what);
        }
        p.monoid();
        p.kept(2);
        for (int kind = 0; kind < 4; kind++) {
            p.first(kind);
        }
        p.core();
        p.around(0);
        p.type('a' | ':' << 8 | 'a' << 16 | (long) '=' << 24 | (long) 'b' << 32, 5);
        p.fault();
        p.define();
        p.instance(6);
        for (int i = 0; i < 5; i++) {
            p.constrain(0, i, i + 1, Polymorphium.NONE);
        }
        p.solutions();
        p.solutionsAnew();
        p.solve();
        p.left(3);
        p.pairs(0, 5);
    }
}
