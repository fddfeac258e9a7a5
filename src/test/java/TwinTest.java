import java.lang.reflect.Method;
import java.util.ArrayList;
import java.util.Arrays;
import java.util.HashMap;
import java.util.List;
import java.util.Map;
import java.util.Random;
import java.util.Set;

/**
 * Random runs of calls on SeenWords and on PlainWords: each answer of the one is that of the other. An object answers 512
 * calls; where a run is longer, a new one goes on behind the calls of the run that changed something.
 */
public final class TwinTest {
    private static final Map<String, Method> REAL = methods(SeenWords.class), PLAIN = methods(PlainWords.class);
    private static final int[] WILD = {Integer.MIN_VALUE, Integer.MAX_VALUE, -1, -2, 1000, 500, 499, 300, 61, 60, 24, 12};
    private static int wrong;
    private static final Map<String, Integer> taken = new HashMap<>();

    private static final int CALLS = 512, CHANGES = 400;
    private static final Set<String> LOOKING = Set.of("length", "shown", "pieces", "piece", "word", "about", "at", "compare",
        "clash", "ofLink", "ends", "part", "ofRight", "may", "why", "view", "owes", "steps", "chain", "quotes", "hit", "seal",
        "side", "prove", "stamp", "cell", "as", "trace", "fault", "many");
    private static final Set<String> NAMING_FAULTS = Set.of("put", "link", "right", "seek", "prove", "sheet", "set", "cell", "copy", "as");

    record Call(String name, Object[] args) { }

    private SeenWords real = new SeenWords();
    private int calls;
    private final List<Call> changes = new ArrayList<>();
    private Call lastNamingFaults;
    private final PlainWords plain = new PlainWords();
    private final Random random;
    private final List<String> told = new ArrayList<>();
    private boolean failed;

    private TwinTest(long seed) { random = new Random(seed); }

    private static Map<String, Method> methods(Class<?> of) {
        Map<String, Method> all = new HashMap<>();
        for (Method m : of.getDeclaredMethods())
            if (java.lang.reflect.Modifier.isPublic(m.getModifiers())) all.put(m.getName(), m);
        return all;
    }

    private long ask(Call call) throws Exception {
        calls++;
        try {
            return ((Number) REAL.get(call.name()).invoke(real, call.args())).longValue();
        } catch (java.lang.reflect.InvocationTargetException e) {
            e.getCause().printStackTrace();
            return 987654321;
        }
    }

    private void goOnWithANewOne() throws Exception {
        real = new SeenWords();
        calls = 0;
        for (Call call : changes) ask(call);
    }

    private boolean isLong() { return changes.size() > CHANGES; }

    private long call(String name, int... args) throws Exception {
        if (calls >= CALLS && changes.size() < CALLS) goOnWithANewOne();
        Call call = new Call(name, Arrays.stream(args).boxed().toArray());
        long due = ((Number) PLAIN.get(name).invoke(plain, call.args())).longValue();
        long got = ask(call);
        boolean changing = due >= 0 && !LOOKING.contains(name);
        if (NAMING_FAULTS.contains(name)) {
            changes.remove(lastNamingFaults);
            lastNamingFaults = changing ? null : call;
        }
        if (changing || NAMING_FAULTS.contains(name)) changes.add(call);
        told.add(name + Arrays.toString(args) + " = " + due);
        if (due >= 0) taken.merge(name, 1, Integer::sum);
        if (got != due && !failed) {
            failed = true;
            wrong++;
            System.out.println("after " + String.join("; ", told) + "\n  answered " + got);
        }
        return due;
    }

    private int below(int n) { return n <= 0 ? 0 : random.nextInt(n); }
    private boolean odds(int percent) { return random.nextInt(100) < percent; }
    private int wild(int plainOne) { return odds(1) ? WILD[below(WILD.length)] : odds(2) ? plainOne + below(3) - 1 : plainOne; }
    private int one(int count) { return wild(odds(2) ? count : below(count)); }
    private int late(int count) { return odds(50) ? one(count) : wild(count - 1 - below(Math.min(count, 3))); }
    private int hand() { return one(plain.many(1)); }
    private int w() { return one(plain.many(2)); }
    private int x() { return one(plain.many(3)); }
    private int v() { return late(plain.many(4)); }
    private int l() { return one(plain.many(5)); }
    private int r() { return late(plain.many(6)); }
    private int c() { return late(plain.many(7)); }
    private int moment() { return odds(40) ? wild(plain.many(0)) : one(plain.many(0) + 1); }
    private int size(int w) { return Math.max(0, plain.length(w, plain.many(0))); }
    private int at(int w) { return odds(10) ? size(w) : wild(below(size(w) + 1)); }
    /** How many places leave from one on: few, or now and then all that are there. */
    private int leaving(int there, int most) { return odds(15) ? wild(there) : wild(1 + below(Math.min(there, most))); }
    private int k() { return one(4); }
    private int stretch(int most) { return wild(1 + below(odds(10) ? 300 : most)); }

    private void sheet(int k, int lane, int... cells) throws Exception {
        call("sheet", k, lane, cells.length);
        for (int i = 0; i < cells.length; i++) call("set", k, i, cells[i]);
    }

    /** Words by few hands' calls: one put of up to sixty codes. */
    private void someWords(int most) throws Exception {
        int n = 1 + below(most), lane = below(3);
        int[] codes = new int[n];
        for (int i = 0; i < n; i++) codes[i] = odds(1) ? below(120) : 1 + below(4);
        sheet(below(4), lane, codes);
        for (int k = 0; k < 4; k++) {
            if (plain.cell(k, n - 1, lane) != Long.MIN_VALUE) {
                int w = w();
                call("put", w, at(w), k, odds(95) ? lane : one(4), odds(90) ? 0 : one(n), odds(90) ? n : wild(below(n + 2)));
                return;
            }
        }
    }

    private void someRight() throws Exception {
        StringBuilder text = new StringBuilder();
        text.append(below(4)).append(':').append(new String[] {"r", "q", "rq", "rql", "lr", "l", "qlr"}[below(7)]);
        text.append('@').append(odds(70) ? 0 : below(60)).append('-').append(odds(70) ? 9999 : below(200));
        if (odds(25)) text.setCharAt(below(text.length()), "0:rql@-95".charAt(below(9)));
        if (odds(10)) text.insert(below(text.length()), "0:rql@-95".charAt(below(9)));
        int lane = below(3), k = below(4);
        sheet(k, lane, text.chars().toArray());
        call("right", w(), k, lane, 0, odds(90) ? text.length() : wild(below(text.length() + 2)));
    }

    private void someProof() throws Exception {
        if (plain.many(3) == 0) return;
        int x = below(plain.many(3)), m = below(plain.many(0) + 1);
        int[] sides = new int[9 + below(3)];
        for (int k = 0; k < 9; k++) sides[k] = (int) call("side", x, m, k);
        if (odds(20)) sides[below(9)] ^= 1 << below(32);
        sheet(0, 2, sides);
        int there = plain.word(x, 3) <= m ? 0 : below(2);
        call("prove", x, plain.word(x, 1) + there, plain.word(x, 0), plain.word(x, 3), m, 0, 2, odds(90) ? 0 : below(5));
    }

    private void step() throws Exception {
        int w = w(), v = v(), size = size(w), places = Math.max(0, plain.about(v, 3));
        int from = wild(below(size)), place = wild(below(places));
        switch (random.nextInt(64)) {
            case 0: if (odds(30)) call("hand"); if (odds(20)) someReading(); if (odds(20)) someVersionsApart(); if (odds(10)) someLongRow(); break;
            case 1: call("group", k(), wild(below(1 << plain.many(1)))); break;
            case 2: if (odds(50)) call("writing", hand()); break;
            case 3: case 4: someWords(odds(10) ? 60 : 6); break;
            case 5: case 6: case 7: call("seen", w, at(w), x(), stretch(8)); break;
            case 8: case 9: case 10: case 11: call("span", w, at(w), w(), moment(), one(6), stretch(12)); break;
            case 12: case 13: case 14: case 15: call("live", w, at(w), w(), one(6), stretch(12)); break;
            case 16: case 17: case 18: call("cut", w, from, leaving(size - from, odds(30) ? 300 : 6)); break;
            case 19: case 20: case 21: call("move", w, from, leaving(size - from, 6), at(w)); break;
            case 22: call("again", w, moment()); break;
            case 23: call("length", w, moment()); break;
            case 24: call("shown", w, moment(), from); break;
            case 25: call("pieces", w); break;
            case 26: for (int k = 0; k < 6; k++) call("piece", w, one(Math.max(0, plain.pieces(w))), k == 5 ? wild(5) : k); break;
            case 27: call("word", x(), one(5)); break;
            case 28: case 29: if (odds(50)) call("version", w); break;
            case 30: call("give", v); break;
            case 31: if (odds(30)) call("back", v); break;
            case 32: call("about", v, one(5)); break;
            case 33: call("at", v, place); break;
            case 34: for (int k = 0; k < 4; k++) call("compare", v, v(), wild(k)); break;
            case 35: case 36: call("join", v, v(), v()); break;
            case 37: call("clash", c(), one(4)); break;
            case 38: case 39: call("settle", c(), one(3)); break;
            case 40: int kind = one(5); call("link", kind, x(), stretch(4), kind == 2 ? l() : x(), stretch(4)); break;
            case 41: call("ofLink", l(), one(6)); break;
            case 42: call("ends", l(), one(2), v); break;
            case 43: call("part", l(), one(2), v, one(3), one(3)); break;
            case 44: case 45: someRight(); break;
            case 46: call("lend", r(), hand(), hand()); break;
            case 47: if (odds(30)) call("take", r()); break;
            case 48: call("ofRight", r(), one(7)); break;
            case 49: call("may", hand(), w, one(3), moment()); break;
            case 50: call("why", hand(), w, one(3), moment()); break;
            case 51: call("view", hand(), v, place, moment()); break;
            case 52: if (odds(30)) call("rule", wild(below(100)), wild(below(11))); break;
            case 53: case 54: call("read", hand(), v); break;
            case 55: int h = hand(), to = hand(); call("owes", h, to); call("pay", h, to, wild(1 + below(20))); break;
            case 56: call("steps", v, place); for (int k = 0; k < 4; k++) call("chain", v, place, wild(k)); break;
            case 57: call("quotes", w, w()); break;
            case 58: case 59: int n = 1 + below(2); int[] codes = {1 + below(4), 1 + below(4)}; int lane = below(3);
                sheet(1, lane, Arrays.copyOf(codes, n)); call("seek", hand(), 1, lane, 0, n);
                for (int k = 0; k < 3; k++) call("hit", one(plain.many(8)), k); break;
            case 60: call("seal", moment()); call("stamp", moment()); call("side", x(), moment(), one(9)); break;
            case 61: if (odds(50)) someProof(); break;
            case 62: call("copy", k(), below(4), k(), below(4), wild(below(5))); call("lose", k()); call("cell", k(), wild(below(5)), one(3));
                call("set", k(), wild(below(5)), random.nextInt()); call("sheet", k(), one(3), wild(below(61))); break;
            default: call("tell", l()); call("name", l()); call("as", l(), one(5)); call("trace"); break;
        }
        call("fault");
        for (int k = 0; k < 10; k++) call("many", k);
    }

    /** All that a writing and a version show, at the end of a run. */
    private void look() throws Exception {
        for (int m = 0; m <= plain.many(0); m++) {
            call("stamp", m);
            for (int w = 0; w < plain.many(2); w++) {
                int size = (int) call("length", w, m);
                for (int p = 0; p < size; p += 1 + below(9)) call("shown", w, m, p);
            }
        }
        for (int w = 0; w < plain.many(2); w++)
            for (int p = 0; p < plain.pieces(w); p++) for (int k = 0; k < 5; k++) call("piece", w, p, k);
        for (int v = 0; v < plain.many(4); v++) {
            for (int k = 0; k < 5; k++) call("about", v, k);
            for (int p = 0; p < plain.about(v, 3); p++) {
                call("at", v, p);
                int steps = (int) call("steps", v, p);
                for (int i = 0; i <= steps; i++) call("chain", v, p, i);
                for (int h = 0; h < plain.many(1); h++) call("view", h, v, p, plain.many(0));
            }
        }
    }

    /** A base and two versions that part from it, so that there is something to join and to settle. */
    private void someVersionsApart() throws Exception {
        int w = below(plain.many(2)), base = plain.many(4);
        call("version", w);
        int start = plain.many(0);
        for (int k = 0; k < 2; k++) {
            for (int e = 1 + below(3); e > 0; e--) {
                int size = size(w);
                if (odds(60)) call("seen", w, at(w), x(), 1 + below(3));
                else if (size > 0) call("cut", w, below(size), 1);
            }
            call("version", w);
            if (odds(90)) call("again", w, start);
        }
        call("join", base + 1 + below(2), base + 1 + below(2), odds(90) ? base : v());
        if (plain.many(7) > 0) {
            for (int k = 0; k < 5; k++) call("clash", plain.many(7) - 1, k);
            if (odds(60)) call("settle", plain.many(7) - 1, below(3));
        }
    }

    /** A row that goes on beyond what is shown of it, changed about the end of that. */
    private void someLongRow() throws Exception {
        int w = below(plain.many(2)), words = plain.many(3);
        for (int k = 0; k < 12 && size(w) < 300; k++) {
            if (odds(70)) call("seen", w, at(w), below(words), 1 + below(words));
            else call("span", w, at(w), w(), moment(), below(4), 300);
        }
        for (int k = 0; k < 12; k++) {
            int size = size(w), from = Math.max(0, size - 1 - below(12)), at = Math.max(0, size - below(3));
            switch (below(7)) {
                case 0: someWords(3); call("put", w, at, below(4), below(3), 0, 1); break;
                case 1: call("seen", w, at, below(words), 1 + below(9)); break;
                case 2: call("span", w, at, w(), moment(), below(4), 1 + below(20)); break;
                case 3: call("live", w, at, w(), below(4), 1 + below(20)); break;
                case 4: call("cut", w, from, odds(60) ? size - from : 1); break;
                case 5: call("move", w, from, odds(60) ? size - from : 1, at(w)); break;
                default: int first = below(size); call("move", w, first, leaving(size - first, 9), at);
            }
            call("pieces", w);
            call("length", w, plain.many(0));
        }
        for (int p = 0; p < plain.pieces(w); p++) for (int k = 0; k < 5; k++) call("piece", w, p, k);
    }

    /** Rows that show one another, five deep, changed where they show gaps and where they do not yet. */
    private void someDepth() throws Exception {
        int hand = 0, first = plain.many(2);
        while (plain.many(2) < Math.min(12, first + 6)) call("writing", hand);
        int last = plain.many(2) - 1;
        call("seen", first, 0, 0, Math.min(5, plain.many(3)));
        for (int w = first + 1; w <= last; w++) {
            if (odds(70)) call("live", w, 0, w - 1, below(2), 9);
            else call("span", w, 0, w - 1, plain.many(0), below(2), 9);
            if (odds(30)) call("seen", w, at(w), x(), 1 + below(2));
        }
        for (int k = 0; k < 14; k++) {
            int w = last - below(4), size = size(w), from = below(size);
            switch (below(6)) {
                case 0: call("seen", w, at(w), x(), 1 + below(3)); break;
                case 1: call("cut", w, from, leaving(size - from, 3)); break;
                case 2: call("move", w, from, leaving(size - from, 3), at(w)); break;
                case 3: call("live", w, at(w), below(last + 1), below(3), 1 + below(9)); break;
                case 4: call("again", w, Math.max(0, plain.many(0) - below(9))); break;
                default: call("version", w); call("steps", plain.many(4) - 1, below(size)); call("chain", plain.many(4) - 1, below(size), below(6));
            }
            for (int p = 0; p < Math.min(9, size(w)); p++) call("shown", w, plain.many(0), p);
        }
    }

    /** A given version that others may read, lend, owe for. */
    private void someReading() throws Exception {
        int w = below(plain.many(2)), group = below(4), hands = plain.many(1);
        call("group", group, (1 << hands) - 1);
        String[] uses = {"r", "rq", "rql", "lr", "l"};
        for (int k = 0; k < plain.many(2); k++) {
            if (odds(60)) {
                String text = group + ":" + uses[below(5)] + "@" + below(9) + "-" + (odds(80) ? 9999 : plain.many(0) + below(9));
                sheet(0, 0, text.chars().toArray());
                call("right", k, 0, 0, 0, text.length());
            }
        }
        call("version", w);
        call("give", plain.many(4) - 1);
        for (int k = 0; k < 4; k++) {
            int hand = below(hands), to = below(hands);
            call("read", hand, plain.many(4) - 1);
            call("owes", hand, to);
            call("pay", hand, to, 1 + below(15));
            call("lend", r(), hand, to);
            if (odds(20)) call("take", r());
            if (odds(20)) call("group", group, below(1 << hands));
        }
    }

    private void begin() throws Exception {
        for (int h = 1 + below(3); h > 0; h--) call("hand");
        for (int w = 1 + below(4); w > 0; w--) call("writing", below(plain.many(1)));
        someWords(12);
        someWords(6);
        if (odds(20)) {
            for (int k = 0; k < 3; k++) someWords(60);
        }
    }

    public static void main(String[] args) throws Exception {
        int runs = args.length > 0 ? Integer.parseInt(args[0]) : 300;
        long first = args.length > 1 ? Long.parseLong(args[1]) : 1;
        for (long seed = first; seed < first + runs && wrong < 3; seed++) {
            TwinTest run = new TwinTest(seed);
            run.begin();
            for (int k = 0; k < seed % 4; k++) run.someVersionsApart();
            for (int k = 0; k < seed % 3; k++) run.someReading();
            if (seed % 5 == 0) run.someLongRow();
            if (seed % 5 == 1) run.someDepth();
            for (int k = 0; k < 40 + seed % 200 && !run.failed && !run.isLong(); k++) run.step();
            if (!run.failed) run.look();
        }
        if (args.length > 2) System.out.println(taken);
        System.out.println(wrong == 0 ? "twin runs: all answers agree" : "twin runs: " + wrong + " runs differ");
        if (wrong != 0) System.exit(1);
    }
}
