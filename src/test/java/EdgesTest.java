import java.lang.reflect.Method;
import java.util.ArrayList;
import java.util.Arrays;
import java.util.List;
import java.util.Map;
import java.util.Random;
import java.util.TreeMap;

/**
 * Each call with all that its arguments may be about their bounds, in all their ways together (of very many a part):
 * whichever refusals hold at once, SeenWords tells what PlainWords tells. In two states: one that has some of
 * everything, one that is full.
 */
public final class EdgesTest {
    private static final int CALLS = 512, MOST = 2500, MIN = Integer.MIN_VALUE, MAX = Integer.MAX_VALUE;
    private static final Map<String, Method> PLAIN = new TreeMap<>();
    private static int wrong, asked;

    record Call(String name, int... args) {
        public String toString() { return name + Arrays.toString(args); }
    }

    private final List<Call> base;
    private PlainWords plain;
    private Runs.Player real;
    private final Map<Character, int[]> edges = new TreeMap<>();

    private EdgesTest(List<Call> base) throws Exception {
        this.base = base;
        begin();
        int now = plain.many(0);
        int places = plain.length(0, now), words = plain.many(3);
        edges.put('h', new int[] {-1, 0, 1, plain.many(1) - 1, plain.many(1)});
        edges.put('s', new int[] {-1, 0, 2, (1 << plain.many(1)) - 1, 1 << plain.many(1), MIN, MAX});
        edges.put('w', new int[] {-1, 0, 1, plain.many(2) - 1, plain.many(2), MAX});
        edges.put('p', new int[] {-1, 0, 1, places - 1, places, places + 1, MAX});
        edges.put('x', new int[] {-1, 0, 1, words - 1, words, MAX});
        edges.put('v', new int[] {-1, 0, 1, 2, plain.many(4) - 1, plain.many(4), MIN});
        edges.put('l', new int[] {-1, 0, 1, 2, 3, 4, plain.many(5) - 1, plain.many(5)});
        edges.put('r', new int[] {-1, 0, 1, 2, plain.many(6) - 1, plain.many(6), MAX});
        edges.put('c', new int[] {-1, 0, plain.many(7) - 1, plain.many(7), MIN});
        edges.put('k', new int[] {-1, 0, 1, 2, 3, 4});
        edges.put('i', new int[] {MIN, -1, 0, 1, 4, 5, 6, 7, 8, 59, 60, MAX});
        edges.put('n', new int[] {MIN, -1, 0, 1, 2, 5, 6, 7, 8, 300, 499, 500, 501, MAX});
        edges.put('m', new int[] {-1, 0, 1, 9, now - 1, now, now + 1, MAX});
        edges.put('q', new int[] {MIN, -1, 0, 1, 2, 3, 4, 5, 6, 7, 8, 9, MAX});
        edges.put('o', new int[] {MIN, -1, 0, 9, 10, 11, 99, 100, MAX});
        edges.put('u', new int[] {MIN, -1, 0, 7, 8, 60, 61, MAX});
    }

    private void begin() throws Exception {
        plain = new PlainWords();
        for (Call call : base) told(plain, call);
        real = new Runs.Player();
        for (Call call : base) real.play(call.name(), call.args());
    }

    private static long told(PlainWords plain, Call call) throws Exception {
        return ((Number) PLAIN.get(call.name()).invoke(plain, Arrays.stream(call.args()).boxed().toArray())).longValue();
    }

    private void ask(Call call) throws Exception {
        if (real.calls + 2 > CALLS) begin();
        asked++;
        long due = told(plain, call), got = real.play(call.name(), call.args());
        long fault = plain.fault();
        boolean apart = due != got || (!call.name().equals("fault") && fault != real.play("fault"));
        if (apart) {
            wrong++;
            System.out.println(call + " answered " + got + ", due is " + due + "; the fault due is " + fault);
        }
        if (due >= 0 && RefusedTest.CHANGING.contains(call.name())) begin();
    }

    /** A call with a letter for each argument, that tells of what kind it is. */
    private void product(String name, String kinds) throws Exception {
        long all = 1;
        for (char kind : kinds.toCharArray()) all *= edges.get(kind).length;
        Random random = new Random(all);
        for (long k = 0; k < Math.min(all, MOST) && wrong < 5; k++) {
            long which = all <= MOST ? k : Math.floorMod(random.nextLong(), all);
            int[] args = new int[kinds.length()];
            for (int a = 0; a < args.length; a++) {
                int[] values = edges.get(kinds.charAt(a));
                args[a] = values[(int) (which % values.length)];
                which /= values.length;
            }
            ask(new Call(name, args));
        }
    }

    private void all() throws Exception {
        String[] calls = {"hand", "group ks", "writing h", "put wpkkin", "seen wpxn", "span wpwmin", "live wpwin", "cut wpn",
            "move wpnp", "again wm", "length wm", "shown wmp", "pieces w", "piece wkq", "word xq", "version w", "give v",
            "back v", "about vq", "at vp", "compare vvq", "join vvv", "clash cq", "settle cq", "link qxnxn", "link qxnln",
            "ofLink lq", "ends lqv", "part lqvkq", "right wkkin", "lend rhh", "take r", "ofRight rq", "may hwqm", "why hwqm",
            "view hvpm", "rule oo", "read hv", "owes hh", "pay hhn", "steps vp", "chain vpq", "quotes ww", "seek hkkin",
            "hit iq", "seal m", "side xmq", "prove xhqmmkki", "stamp m", "sheet kqu", "lose k", "set kin", "cell kiq",
            "copy kikin", "tell l", "name l", "as lq", "trace", "fault", "many q"};
        for (String call : calls) {
            int space = call.indexOf(' ');
            product(space < 0 ? call : call.substring(0, space), space < 0 ? "" : call.substring(space + 1));
        }
    }

    private static void sheet(List<Call> calls, int k, int lane, int... cells) {
        calls.add(new Call("sheet", k, lane, cells.length));
        for (int i = 0; i < cells.length; i++) calls.add(new Call("set", k, i, cells[i]));
    }

    private static List<Call> some() {
        List<Call> all = new ArrayList<>();
        for (int h = 0; h < 3; h++) all.add(new Call("hand"));
        for (int w = 0; w < 4; w++) all.add(new Call("writing", w / 2));
        sheet(all, 0, 0, 1, 2, 1, 2, 3);
        all.add(new Call("put", 0, 0, 0, 0, 0, 5));
        all.add(new Call("put", 2, 0, 0, 0, 1, 3));
        all.add(new Call("version", 0));
        all.add(new Call("seen", 0, 1, 3, 2));
        all.add(new Call("version", 0));
        all.add(new Call("again", 0, 8));
        all.add(new Call("seen", 0, 1, 2, 1));
        all.add(new Call("version", 0));
        all.add(new Call("join", 1, 2, 0));
        all.add(new Call("live", 1, 0, 0, 1, 4));
        all.add(new Call("span", 0, 2, 0, 8, 1, 2));
        all.add(new Call("group", 0, 7));
        sheet(all, 1, 1, "0:rql@0-99".chars().toArray());
        for (int w = 0; w < 3; w += 2) all.add(new Call("right", w, 1, 1, 0, 10));
        all.add(new Call("lend", 0, 1, 2));
        all.add(new Call("lend", 1, 0, 2));
        all.add(new Call("take", 3));
        all.add(new Call("give", 1));
        all.add(new Call("give", 2));
        all.add(new Call("back", 2));
        all.add(new Call("read", 2, 1));
        all.add(new Call("link", 0, 0, 2, 3, 1));
        all.add(new Call("link", 1, 1, 2, 5, 1));
        all.add(new Call("link", 2, 1, 1, 1, 1));
        all.add(new Call("link", 3, 0, 1, 2, 1));
        all.add(new Call("link", 4, 0, 2, 1, 2));
        all.add(new Call("seek", 0, 0, 0, 0, 2));
        sheet(all, 2, 2, 1, 2, 3, 4, 5, 0, 0, 0, 0, 0);
        sheet(all, 1, 1, "2:q@3-4".chars().toArray());
        return all;
    }

    private static List<Call> full() {
        List<Call> all = new ArrayList<>(some());
        for (int h = 0; h < 5; h++) all.add(new Call("hand"));
        for (int w = 0; w < 7; w++) all.add(new Call("writing", 7));
        sheet(all, 1, 0, 7);
        for (int k = 0; k < 6; k++) all.add(new Call("copy", 1, 0, 1, 0, 1));
        all.add(new Call("sheet", 1, 0, 60));
        all.add(new Call("set", 1, 0, 7));
        for (int k = 1; k < 60; k *= 2) all.add(new Call("copy", 1, 0, 1, k, Math.min(k, 60 - k)));
        for (int k = 0; k < 8; k++) all.add(new Call("put", 4 + k % 3, 0, 1, 0, 0, 60));
        all.add(new Call("put", 4, 0, 1, 0, 0, 12));
        for (int k = 0; k < 24; k++) all.add(new Call("seen", k % 2, 0, k % 5, 1));
        for (int k = 0; k < 24; k++) all.add(new Call("seen", k % 2, 0, k % 5, 1));
        for (int k = 0; k < 13; k++) all.add(new Call("version", k % 2));
        for (int k = 0; k < 19; k++) all.add(new Call("link", 1, 0, 1, 2, 1));
        sheet(all, 1, 1, "0:l@0-99".chars().toArray());
        for (int k = 0; k < 16; k++) all.add(new Call("right", 0, 1, 1, 0, 8));
        sheet(all, 1, 1, 1, 2, 3, 1, 2, 3, 1);
        return all;
    }

    public static void main(String[] args) throws Exception {
        for (Method m : PlainWords.class.getDeclaredMethods()) {
            if (java.lang.reflect.Modifier.isPublic(m.getModifiers())) PLAIN.put(m.getName(), m);
        }
        new EdgesTest(some()).all();
        EdgesTest full = new EdgesTest(full());
        if (full.plain.many(1) != 8 || full.plain.many(2) != 12 || full.plain.many(3) != 500 || full.plain.many(4) != 16
            || full.plain.many(5) != 24 || full.plain.many(6) != 20 || full.plain.pieces(0) != 24 || full.plain.pieces(1) != 24) {
            wrong++;
            System.out.println("edges: the full state is not full");
        }
        full.all();
        System.out.println(wrong == 0 ? "edges: " + asked + " answers agree" : "edges: " + wrong + " answers differ");
        if (wrong != 0) System.exit(1);
    }
}
