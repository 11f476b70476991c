import java.lang.management.ManagementFactory;
import java.lang.reflect.Array;
import java.lang.reflect.Field;
import java.lang.reflect.Modifier;
import java.util.ArrayDeque;
import java.util.Collections;
import java.util.Deque;
import java.util.IdentityHashMap;
import java.util.Set;

/** All calls live in one room: how many objects, fields and elements one object has, and that calls make no more. */
public final class RoomTest {
    private static final int OBJECTS_MOST = 40;
    private static final int ELEMENTS_MOST = 160000;
    /** Far below what a single row of a search would take, times the calls. */
    private static final long BYTES_MOST = 20000;

    private static final Checks checks = new Checks();

    public static void main(String[] args) throws IllegalAccessException {
        SlideBoards boards = made();
        String atFirst = roomOf(boards);
        int[] counts = countIn(boards);
        checks.same("few objects: " + counts[0], counts[0] <= OBJECTS_MOST, true);
        checks.same("few elements: " + counts[1], counts[1] <= ELEMENTS_MOST, true);
        callAll(boards);
        checks.same("as much room behind all calls", roomOf(boards), atFirst);
        callsMakeNothing();
        checks.end();
    }

    /** Board and graph as full as they can be, so that the calls are dear. */
    private static SlideBoards made() {
        SlideBoards boards = new SlideBoards(5, 5);
        for (int b = 0; b < 8; b++) {
            boards.block(b);
            boards.cell(b, b % 5, b / 5);
            boards.node();
            for (int other = 0; other < b; other++) {
                boards.join(b, other);
            }
        }
        boards.goal(0, 2, 2);
        boards.kindGoal(7, 4, 4);
        return boards;
    }

    private static int callAll(SlideBoards boards) {
        int sum = boards.search(0, 10000) + boards.search(1, 10000) + boards.reach() + boards.ways();
        sum += boards.parity() + boards.open() + boards.step(0) + boards.states() + boards.picture(7);
        sum += boards.slide(7, 1, 2) + boards.slide(7, 3, 2) + boards.place(7) + boards.tile(3);
        sum += boards.home() && boards.even() && boards.shift(1) && boards.swap(1, 2) ? 1 : 0;
        sum += boards.wall(0, 0, true) || boards.cell(0, 0, 0) || boards.join(0, 1) ? 1 : 0;
        return sum + boards.block(0) + boards.node();
    }

    private static String roomOf(SlideBoards boards) throws IllegalAccessException {
        int[] counts = countIn(boards);
        return counts[0] + " objects and arrays, " + counts[1] + " fields and elements";
    }

    /** Objects and arrays that can be come to, and their fields and elements. */
    private static int[] countIn(Object root) throws IllegalAccessException {
        Set<Object> seen = Collections.newSetFromMap(new IdentityHashMap<>());
        Deque<Object> open = new ArrayDeque<>();
        open.add(root);
        seen.add(root);
        int elements = 0;
        while (!open.isEmpty()) {
            Object owner = open.remove();
            if (owner.getClass().isArray()) {
                elements += Array.getLength(owner);
                continue;
            }
            for (Field field : owner.getClass().getDeclaredFields()) {
                if (Modifier.isStatic(field.getModifiers())) {
                    continue;
                }
                elements++;
                field.setAccessible(true);
                Object held = field.get(owner);
                if (!field.getType().isPrimitive() && held != null && seen.add(held)) {
                    open.add(held);
                }
            }
        }
        return new int[] {seen.size(), elements};
    }

    private static void callsMakeNothing() {
        SlideBoards boards = made();
        callAll(boards);
        long before = allocated();
        for (int n = 0; n < 10; n++) {
            callAll(boards);
        }
        long bytes = allocated() - before;
        checks.same("calls make nothing: " + bytes + " bytes", bytes <= BYTES_MOST, true);
    }

    private static long allocated() {
        return ((com.sun.management.ThreadMXBean) ManagementFactory.getThreadMXBean()).getCurrentThreadAllocatedBytes();
    }
}
