import com.sun.management.ThreadMXBean;
import java.lang.management.ManagementFactory;

/**
 * What a run of 512 calls makes stays far within the room that all its calls share: 600,000 objects, 7.3 million
 * fields and elements, four bytes the least of them. (The machine's own count of bytes, headers and all.)
 */
public final class RoomTest {
    private static final ThreadMXBean THREADS = (ThreadMXBean) ManagementFactory.getThreadMXBean();
    private static int wrong;

    private static long bytes() { return THREADS.getCurrentThreadAllocatedBytes(); }

    private static void within(String what, long start, long most) {
        long made = bytes() - start;
        if (made > most) {
            wrong++;
            System.out.println("room: " + what + " made " + made + " bytes, more than " + most);
        }
    }

    private static SeenWords full() {
        SeenWords x = new SeenWords();
        x.hand();
        for (int w = 0; w < 4; w++) x.writing(0);
        x.sheet(0, 0, 60);
        for (int i = 0; i < 60; i++) x.set(0, i, 1 + i % 3);
        for (int k = 0; k < 5; k++) x.put(0, 60 * k, 0, 0, 0, 60);
        for (int k = 0; k < 3; k++) x.version(0);
        return x;
    }

    public static void main(String[] args) {
        full().seek(0, 0, 0, 0, 1);
        long start = bytes();
        for (int k = 0; k < 10; k++) new SeenWords();
        within("ten new objects", start, 2_000_000);
        start = bytes();
        SeenWords rows = full();
        for (int k = 0; k < 400; k++) rows.live(1, 0, 0, k % 3, 500);
        for (int k = 0; k < 400; k++) rows.move(0, k % 7, 3, 100);
        for (int k = 0; k < 400; k++) rows.length(0, k);
        within("rows", start, 4_000_000);
        start = bytes();
        SeenWords versions = full();
        for (int k = 0; k < 500; k++) versions.join(k % 3, 1, 2);
        for (int k = 0; k < 500; k++) versions.compare(k % 3, 1, k % 4);
        for (int k = 0; k < 500; k++) versions.seek(0, 0, 0, 0, 1 + k % 2);
        for (int k = 0; k < 500; k++) versions.right(0, 0, 0, 0, k % 60);
        for (int k = 0; k < 500; k++) versions.steps(0, k % 300);
        for (int k = 0; k < 500; k++) versions.seal(k % 10);
        within("versions", start, 2_000_000);
        System.out.println(wrong == 0 ? "room: enough" : "room: " + wrong + " runs make too much");
        if (wrong != 0) System.exit(1);
    }
}
