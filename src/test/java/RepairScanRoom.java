import java.lang.management.ManagementFactory;
import java.lang.reflect.Array;
import java.lang.reflect.Field;
import java.lang.reflect.Modifier;
import java.util.ArrayDeque;
import java.util.Collections;
import java.util.Deque;
import java.util.IdentityHashMap;
import java.util.Set;

/**
 * The room that a run has: some 600,000 objects and arrays, 7.3 million fields and elements. What an object takes is made
 * with it, so that a hundred of them fit in; its calls make nothing more.
 */
public final class RepairScanRoom extends Checks {
    private static final int MOST_OBJECTS = 6000;
    private static final int MOST_FIELDS = 73000;

    private RepairScanRoom() {
    }

    public static void main(String[] args) {
        runTests(RepairScanRoom.class);
    }

    /** How many objects and arrays hang on this one, and how many fields and elements these have. */
    private static int[] roomOf(Object top) throws IllegalAccessException {
        Set<Object> seen = Collections.newSetFromMap(new IdentityHashMap<>());
        Deque<Object> open = new ArrayDeque<>();
        open.add(top);
        seen.add(top);
        int fields = 0;
        while (!open.isEmpty()) {
            Object it = open.remove();
            if (it.getClass().isArray()) {
                fields += Array.getLength(it);
                if (it instanceof Object[] row) {
                    for (Object element : row) {
                        follow(element, seen, open);
                    }
                }
                continue;
            }
            for (Field field : it.getClass().getDeclaredFields()) {
                if (Modifier.isStatic(field.getModifiers())) {
                    continue;
                }
                fields++;
                field.setAccessible(true);
                if (!field.getType().isPrimitive()) {
                    follow(field.get(it), seen, open);
                }
            }
        }
        return new int[] {seen.size(), fields};
    }

    private static void follow(Object it, Set<Object> seen, Deque<Object> open) {
        if (it != null && seen.add(it)) {
            open.add(it);
        }
    }

    /** All calls once, of a file that tells as much as 1,500 bytes can. */
    private static int callAll(RepairScan x, byte[] file) {
        for (byte b : file) {
            x.add(b);
        }
        int sum = x.scan() + x.again() + x.written(-1) + x.written(0) + x.mended(-1, 0) + x.mended(0, 1) + x.catalogue();
        sum += x.pages() + x.page(0) + x.cut() + x.trailer(0) + x.trailer(1) + x.twice(-1) + x.twice(0);
        return sum + (int) x.found(1, 4) + x.stream(2, -1) + x.stream(2, 0) + (x.whole(1) ? 1 : 0);
    }

    private static byte[] fullFile() {
        String file = "1 0 obj<</Type/Page/A[9 0 R 8 0 R]>>endobj 2 0 obj<</Length 7>>stream\nabc\nendstream "
                + "3 0 obj<</Type/Catalog/Pages 4 0 R>>endobj 4 0 obj<</Type/Pages/Kids[1 0 R 5 0 R]>>endobj "
                + "5 0 obj<</Type/Page>> trailer<</Root 3 0 R/Size 7>> ";
        StringBuilder out = new StringBuilder(file);
        while (out.length() < 1490) {
            out.append("7 0 obj ");
        }
        byte[] bytes = new byte[out.length()];
        for (int i = 0; i < bytes.length; i++) {
            bytes[i] = (byte) out.charAt(i);
        }
        return bytes;
    }

    private static void room_aHundredObjectsFitIn() throws IllegalAccessException {
        int[] room = roomOf(new RepairScan());
        due("objects and arrays, " + room[0], room[0] <= MOST_OBJECTS, true);
        due("fields and elements, " + room[1], room[1] <= MOST_FIELDS, true);
    }

    private static void room_callsMakeNothing() throws IllegalAccessException {
        RepairScan x = new RepairScan();
        int[] before = roomOf(x);
        byte[] file = fullFile();
        com.sun.management.ThreadMXBean thread = (com.sun.management.ThreadMXBean) ManagementFactory.getThreadMXBean();
        long made = 0;
        int sum = 0;
        for (int i = 0; i < 200; i++) {
            long start = thread.getCurrentThreadAllocatedBytes();
            sum += callAll(x, file);
            made = thread.getCurrentThreadAllocatedBytes() - start;
        }
        due("they were called", sum > 0, true);
        due("bytes made by all calls together", made, 0);
        int[] behind = roomOf(x);
        due("room behind them", behind[0] <= before[0] && behind[1] <= before[1], true);
    }
}
