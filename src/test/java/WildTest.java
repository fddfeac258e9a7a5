import java.lang.reflect.InvocationTargetException;
import java.lang.reflect.Method;
import java.util.ArrayList;
import java.util.Comparator;
import java.util.List;
import java.util.Random;

/** No call throws, whatever its arguments are, in whatever state, nor beyond the 512th call; each run ends soon. */
public final class WildTest {
    private static final int[] EDGES = {Integer.MIN_VALUE, Integer.MIN_VALUE + 1, Integer.MAX_VALUE,
        Integer.MAX_VALUE - 1, -500, -100, -10, -9, -7, -2, -1, 0, 0, 0, 1, 1, 2, 3, 4, 5, 6, 7, 8, 9, 10, 11, 12, 16, 20,
        24, 59, 60, 61, 199, 200, 299, 300, 301, 499, 500, 501, 511, 512, 1 << 16, 1 << 30};

    private static int argument(Random random, int wildness) {
        return random.nextInt(100) < wildness ? EDGES[random.nextInt(EDGES.length)] : random.nextInt(5);
    }

    private static void play(List<Method> calls, long seed, int count) throws Exception {
        Random random = new Random(seed);
        SeenWords object = new SeenWords();
        int wildness = 2 + (int) (seed % 40);
        for (int k = 0; k < 6; k++) {
            object.hand();
            object.writing(k / 2);
            object.sheet(k % 4, k % 3, 9 + k);
            for (int i = 0; i < 9; i++) object.set(k % 4, i, 1 + random.nextInt(3));
            object.put(k, 0, k % 4, k % 3, 0, 9);
        }
        for (int k = 0; k < count; k++) {
            Method call = calls.get(random.nextInt(calls.size()));
            Object[] args = new Object[call.getParameterCount()];
            for (int a = 0; a < args.length; a++) args[a] = argument(random, wildness);
            call.invoke(object, args);
        }
    }

    /** Rows in which each span shows a row of spans: without what is kept of them it would take years. */
    private static void deep() {
        SeenWords object = new SeenWords();
        object.hand();
        for (int w = 0; w < 12; w++) object.writing(0);
        object.sheet(0, 0, 2);
        object.set(0, 0, 1);
        object.set(0, 1, 2);
        object.put(0, 0, 0, 0, 0, 2);
        for (int w = 1; w < 12; w++) {
            for (int p = 0; p < 24; p++) {
                if (p % 2 == 0) object.live(w, 0, w - 1, p % 3, 1);
                else object.span(w, 0, w - 1, object.many(0) - p % 3, 0, 1);
            }
        }
        for (int k = 0; k < 200; k++) {
            object.again(k % 12, object.many(0) - k);
            object.length(11 - k % 3, object.many(0) - k);
            object.version(11 - k % 3);
        }
    }

    /** Twenty clashes in one join, more than there may ever be: refused, not thrown. */
    private static void manyClashes() {
        SeenWords object = new SeenWords();
        object.hand();
        for (int w = 0; w < 8; w++) object.writing(0);
        object.sheet(0, 0, 60);
        for (int i = 0; i < 60; i++) object.set(0, i, 1);
        object.put(0, 0, 0, 0, 0, 60);
        object.seen(1, 0, 0, 20);
        object.version(1);
        for (int side = 0; side < 2; side++) {
            int whole = 2 + 3 * side;
            for (int half = 0; half < 2; half++) {
                for (int k = 9; k >= 0; k--) {
                    object.seen(whole + 1 + half, 0, 10 * half + k, 1);
                    object.seen(whole + 1 + half, 0, 20 + 20 * side + 10 * half + k, 1);
                }
                object.live(whole, 20 * half, whole + 1 + half, 0, 99);
            }
            object.version(whole);
        }
        if (object.about(2, 3) != 40 || object.join(1, 2, 0) != SeenWords.FULL || object.many(7) != 0) {
            System.out.println("twenty clashes are not refused");
            System.exit(1);
        }
    }

    public static void main(String[] args) throws Exception {
        List<Method> calls = new ArrayList<>();
        for (Method m : SeenWords.class.getDeclaredMethods()) {
            if (java.lang.reflect.Modifier.isPublic(m.getModifiers())) calls.add(m);
        }
        calls.sort(Comparator.comparing(Method::getName));
        for (long seed = 1; seed <= 400; seed++) {
            try {
                play(calls, seed, seed % 20 == 0 ? 4000 : 500);
            } catch (InvocationTargetException e) {
                System.out.println("wild run " + seed + ": " + e.getCause());
                e.getCause().printStackTrace(System.out);
                System.exit(1);
            }
        }
        manyClashes();
        long start = System.nanoTime();
        deep();
        long millis = (System.nanoTime() - start) / 1000000;
        if (millis > 20000) {
            System.out.println("deep rows took " + millis + " ms");
            System.exit(1);
        }
        System.out.println("wild runs: none throws, all end");
    }
}
