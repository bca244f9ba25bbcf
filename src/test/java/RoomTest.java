import java.lang.management.ManagementFactory;
import java.lang.reflect.Array;
import java.lang.reflect.Field;
import java.lang.reflect.Modifier;
import java.util.ArrayDeque;
import java.util.Deque;
import java.util.IdentityHashMap;
import java.util.Map;

/** All calls live in one room: what an object takes when it is made, and that its calls make nothing. */
public final class RoomTest {
    private static final int OBJECTS_MOST = 300;
    private static final int SLOTS_MOST = 12000;
    private static final String TOWN = "city 7 3;bed 10 90 2;bed 60 40 3;bed 1 2 3;bed 44 55 6;bed 99 0 9;lodger 30 4 0;"
        + "lodger 31 5 99;lodger 80 1 50;lodger 1 2 3;lodger 9 9 9;lodger 60 3 44";

    public static void main(String[] args) throws Exception {
        Calls calls = new Calls();
        int[] taken = taken(new HollowBed());
        System.out.println("an object takes " + taken[0] + " objects and arrays with " + taken[1] + " fields and elements");
        calls.due("objects are few", taken[0] <= OBJECTS_MOST ? 1 : 0, 1);
        calls.due("fields and elements are few", taken[1] <= SLOTS_MOST ? 1 : 0, 1);
        HollowBed x = Calls.bedsOf(TOWN, "lie 100-near+last*5 if room>1 and not [night%3=bed];lie stuff*shape/body%wants");
        com.sun.management.ThreadMXBean counter = (com.sun.management.ThreadMXBean) ManagementFactory.getThreadMXBean();
        long thread = Thread.currentThread().getId();
        useAll(x);
        counter.getThreadAllocatedBytes(thread);
        long idle = counter.getThreadAllocatedBytes(thread);
        long idleToo = counter.getThreadAllocatedBytes(thread);
        for (int i = 0; i < 20; i++) useAll(x);
        long used = counter.getThreadAllocatedBytes(thread);
        calls.due("calls make nothing", used - idleToo - (idleToo - idle), 0);
        calls.close("RoomTest");
    }

    private static int useAll(HollowBed x) {
        int sum = x.feed(0x6c696520, 0x31000000, 0, 0, 0) + x.end(5) + x.rule() + x.end(0) + x.city() + x.force(0);
        sum += x.night() + x.turn(0) + x.stuff(0, 4) + x.burn(1) + x.lead(0, 3) + x.undo() + x.bed(0, 3) + x.lodger(0, 5);
        sum += x.ahead(0, 100, 3) + x.comes(0, 98) + x.row(5, 3, 0) + x.tonight(-1) + x.turned(60, 0) + x.lain(0, 20, 0);
        sum += x.twins(100, 0) + x.settled(0) + x.best(10, 0) + x.rests(0, 5, 20, 0) + x.rent(999, 0) + x.note(3, 0, 0);
        sum += x.ruled(0) + x.look(60, 0) + x.seed(5) + x.mays(10, 60, 50, 0) + x.count(8) + x.image(0) + x.back(0);
        return sum;
    }

    private static int[] taken(Object root) throws IllegalAccessException {
        Map<Object, Boolean> seen = new IdentityHashMap<>();
        Deque<Object> open = new ArrayDeque<>();
        open.add(root);
        seen.put(root, true);
        int slots = 0;
        while (!open.isEmpty()) {
            Object next = open.remove();
            if (next.getClass().isArray()) {
                slots += Array.getLength(next);
                for (int i = 0; i < Array.getLength(next) && !next.getClass().getComponentType().isPrimitive(); i++) {
                    visit(Array.get(next, i), seen, open);
                }
                continue;
            }
            for (Field f : next.getClass().getDeclaredFields()) {
                if (Modifier.isStatic(f.getModifiers())) continue;
                slots++;
                f.setAccessible(true);
                if (!f.getType().isPrimitive()) visit(f.get(next), seen, open);
            }
        }
        return new int[] {seen.size(), slots};
    }

    private static void visit(Object found, Map<Object, Boolean> seen, Deque<Object> open) {
        if (found != null && seen.put(found, true) == null) open.add(found);
    }
}
