import java.lang.management.ManagementFactory;
import java.lang.reflect.Array;
import java.lang.reflect.Field;
import java.lang.reflect.Modifier;
import java.util.ArrayList;
import java.util.Collections;
import java.util.IdentityHashMap;
import java.util.List;
import java.util.Set;

/** One room holds a run: what an object has is little, and its calls make nothing more. */
public final class RoomTest {
    /** The room by the 512 calls of one object, were each of them a new object. */
    private static final int ELEMENTS_MOST = 7300000 / 512;
    private static final int OBJECTS_MOST = 600000 / 512;
    private static final int TURNS = 2000;

    public static void main(String[] args) throws Exception {
        NeverHalted x = peopled();
        countRoom(x);
        callsMakeNothing(x);
        Due.close();
    }

    private static NeverHalted peopled() {
        NeverHalted x = new NeverHalted();
        StringBuilder b = new StringBuilder();
        for (int w = 0; w < 10; w++) {
            x.walker(w % 8, w % 2);
            b.append("walker ").append(w).append(" from ").append(2 * w).append(" for 14;");
        }
        Due.told(x, 3, b.toString(), 10);
        Due.told(x, 2, "stone 1 for 3 river 1 food 9;stone 5 for 2 food 2;", 2);
        for (int a = 0; a < 8; a++) {
            for (int c = 0; c < a; c++) {
                x.road(a, c, 1 + a * c % 9);
            }
        }
        x.set(0, 0, 3);
        return x;
    }

    private static void countRoom(Object root) throws Exception {
        Set<Object> seen = Collections.newSetFromMap(new IdentityHashMap<>());
        List<Object> open = new ArrayList<>(List.of(root));
        seen.add(root);
        long elements = 0;
        while (!open.isEmpty()) {
            Object o = open.remove(open.size() - 1);
            List<Object> parts = new ArrayList<>();
            if (o.getClass().isArray()) {
                elements += Array.getLength(o);
                for (int i = 0; i < Array.getLength(o) && !o.getClass().getComponentType().isPrimitive(); i++) {
                    parts.add(Array.get(o, i));
                }
            } else {
                for (Field f : o.getClass().getDeclaredFields()) {
                    if (!Modifier.isStatic(f.getModifiers())) {
                        elements++;
                        f.setAccessible(true);
                        if (!f.getType().isPrimitive()) {
                            parts.add(f.get(o));
                        }
                    }
                }
            }
            for (Object part : parts) {
                if (part != null && seen.add(part)) {
                    open.add(part);
                }
            }
        }
        System.out.println("an object has " + seen.size() + " objects and " + elements + " elements");
        Due.yes("few objects", seen.size() <= OBJECTS_MOST);
        Due.yes("few elements", elements <= ELEMENTS_MOST);
    }

    private static void callsMakeNothing(NeverHalted x) {
        com.sun.management.ThreadMXBean bean = (com.sun.management.ThreadMXBean) ManagementFactory.getThreadMXBean();
        callAll(x);
        long before = bean.getCurrentThreadAllocatedBytes();
        for (int i = 0; i < TURNS; i++) {
            callAll(x);
        }
        long each = (bean.getCurrentThreadAllocatedBytes() - before) / TURNS;
        Due.is("bytes that a call of each makes", each, 0);
    }

    private static int callAll(NeverHalted x) {
        int sum = x.feed('t' << 24 | 'i' << 16 | 'r' << 8 | 'e', ' ' << 24 | 'f' << 16 | 'e' << 8 | 'e',
            't' << 24 | '/' << 16 | '9' << 8 | '+', '3' << 24 | ' ' << 16 | 'w' << 8 | 'h', 'e' << 24 | 'n' << 16 | ' ' << 8 | ' ');
        sum += x.feed('n' << 24 | 'o' << 16 | 't' << 8 | '(', 'o' << 24 | 'w' << 16 | 'n' << 8 | '=',
            '1' << 24 | ')' << 16 | ' ' << 8 | ';', 0x20202020, 0x20202020);
        x.end(40);
        sum += x.text(1) + x.fault(0);
        x.image(true);
        sum += x.hours(7) + x.carry(3) + x.look(9) + x.of(3, 5) + x.stone(0, 0) + x.roadOf(0, 1) + x.book(0, 0);
        x.move(3, x.of(3, 0) == 1 ? 2 : 1);
        x.undo();
        sum += x.goes(30, 4) + x.cover(1) + x.watches(12) + x.tour(8, 13) + x.meets(1, 7, 3) + x.sees(1, 2, 0);
        sum += x.fits(4, 6, 30, 0) + x.crossed(4, 9) + x.line(1) + x.owes(2, 100) + x.asks(3);
        x.image(false);
        x.set(2, 0, 100);
        return sum + x.state(sum);
    }
}
