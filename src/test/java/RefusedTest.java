import java.util.ArrayList;
import java.util.Arrays;
import java.util.List;
import java.util.Set;

/**
 * What is refused changes nothing (but fault(), which the runs look at): behind the refused calls of all runs an object
 * answers as one does that never had them, to calls that look at all there is, and to acts that come then.
 */
public final class RefusedTest {
    private static final int CALLS = 512;
    static final Set<String> CHANGING = Set.of("hand", "group", "writing", "put", "seen", "span", "live", "cut",
        "move", "again", "version", "give", "back", "join", "settle", "link", "right", "lend", "take", "rule", "read", "pay",
        "seek", "sheet", "lose", "set", "copy", "tell", "name");
    private static int wrong, refusals;

    record Call(String name, int... args) {
        public String toString() { return name + Arrays.toString(args); }
    }

    private static Runs.Player after(List<Call> calls) {
        Runs.Player player = new Runs.Player();
        for (Call call : calls) player.play(call.name(), call.args());
        return player;
    }

    private static long ask(Runs.Player player, String name, int... args) { return player.play(name, args); }

    /** Calls that look at all there is, as far as it is looked at from outside. */
    private static List<Call> looks(List<Call> prefix) {
        Runs.Player there = after(prefix);
        int[] many = new int[9];
        List<Call> all = new ArrayList<>();
        for (int what = 0; what < 9; what++) {
            many[what] = (int) ask(there, "many", what);
            all.add(new Call("many", what));
        }
        int now = many[0];
        all.add(new Call("trace"));
        all.add(new Call("seal", now));
        for (int m = Math.max(0, now - 2); m <= now + 1; m++) all.add(new Call("stamp", m));
        for (int w = 0; w <= many[2]; w++) {
            all.add(new Call("pieces", w));
            for (int p = 0; p < ask(there, "pieces", w); p++) each(all, "piece", 5, w, p);
            int size = (int) ask(there, "length", w, now);
            all.add(new Call("length", w, now));
            for (int p = 0; p < size; p += 1 + size / 20) all.add(new Call("shown", w, now, p));
        }
        for (int x = 0; x <= many[3]; x += 1 + many[3] / 20) each(all, "word", 5, x);
        for (int v = 0; v <= many[4]; v++) {
            each(all, "about", 5, v);
            int size = (int) ask(there, "about", v, 3);
            for (int p = 0; p < size; p += 1 + size / 8) all.add(new Call("at", v, p));
        }
        for (int l = 0; l <= many[5]; l++) each(all, "ofLink", 6, l);
        for (int r = 0; r <= many[6]; r++) each(all, "ofRight", 7, r);
        for (int c = 0; c <= many[7]; c++) each(all, "clash", 4, c);
        for (int h = 0; h <= many[8]; h += 1 + many[8] / 10) each(all, "hit", 3, h);
        for (int h = 0; h < many[1]; h++) for (int to = 0; to < many[1]; to++) all.add(new Call("owes", h, to));
        for (int k = 0; k < 4; k++)
            for (int lane = 0; lane < 3; lane++)
                for (int i : new int[] {0, 1, 2, 3, 4, 5, 6, 8, 9, 58, 59}) all.add(new Call("cell", k, i, lane));
        return all;
    }

    private static void each(List<Call> all, String name, int whats, int... args) {
        for (int what = 0; what < whats; what++) {
            int[] longer = Arrays.copyOf(args, args.length + 1);
            longer[args.length] = what;
            all.add(new Call(name, longer));
        }
    }

    /** Acts that would show what is kept out of sight. */
    private static List<Call> acts() {
        List<Call> all = new ArrayList<>();
        for (int k = 0; k < 4; k++) for (int lane = 0; lane < 3; lane++) all.add(new Call("put", 0, 0, k, lane, 0, 1));
        for (int g = 0; g < 4; g++) all.add(new Call("group", g, 1));
        for (String name : new String[] {"give", "back", "take", "tell", "name", "writing", "version"}) all.add(new Call(name, 0));
        all.addAll(List.of(new Call("seen", 0, 0, 0, 1), new Call("span", 0, 0, 0, 3, 0, 2), new Call("live", 1, 0, 0, 0, 3),
            new Call("cut", 0, 0, 1), new Call("move", 0, 0, 1, 2), new Call("again", 0, 3), new Call("hand"), new Call("join", 0, 1, 0),
            new Call("settle", 0, 1), new Call("link", 0, 0, 1, 1, 1), new Call("lend", 0, 1, 0), new Call("rule", 7, 7),
            new Call("read", 0, 0), new Call("pay", 0, 1, 1), new Call("seek", 0, 0, 0, 0, 1), new Call("copy", 0, 0, 1, 0, 1),
            new Call("set", 0, 0, 3), new Call("lose", 1), new Call("trace")));
        for (int what = 0; what < 9; what++) all.add(new Call("many", what));
        return all;
    }

    private static void compare(Runs.Run run, List<Call> prefix, List<Call> refused) {
        refusals += refused.size();
        List<Call> with = new ArrayList<>(prefix);
        with.addAll(refused);
        List<Call> looks = looks(prefix), acts = acts();
        int room = Math.max(20, CALLS - with.size());
        for (int from = 0; from < looks.size(); from += room) {
            check(run, prefix, with, refused, looks.subList(from, Math.min(looks.size(), from + room)));
        }
        check(run, prefix, with, refused, acts);
    }

    private static void check(Runs.Run run, List<Call> prefix, List<Call> with, List<Call> refused, List<Call> asked) {
        Runs.Player one = after(prefix), other = after(with);
        for (Call call : asked) {
            if (other.calls >= CALLS) return;
            long due = ask(one, call.name(), call.args()), got = ask(other, call.name(), call.args());
            if (due != got) {
                wrong++;
                System.out.println(run.file().getFileName() + ":" + run.line() + ": " + run.test() + ": behind the refused "
                    + refused + " " + call + " answers " + got + ", without " + due);
                return;
            }
        }
    }

    private static boolean isRefused(String name, long answer) {
        return answer < 0 && CHANGING.contains(name);
    }

    private static void play(Runs.Run run) {
        Runs.Player player = new Runs.Player();
        List<Call> prefix = new ArrayList<>(), refused = new ArrayList<>();
        for (Runs.Step step : run.steps()) {
            Call call = new Call(step.name(), player.numbers(step.args()));
            long answer = ask(player, call.name(), call.args());
            if (isRefused(call.name(), answer)) refused.add(call);
            else if (CHANGING.contains(call.name())) {
                if (!refused.isEmpty()) compare(run, prefix, refused);
                refused.clear();
                prefix.add(call);
            }
        }
        if (!refused.isEmpty()) compare(run, prefix, refused);
    }

    public static void main(String[] args) throws Exception {
        for (Runs.Run run : Runs.read()) {
            if (wrong < 5) play(run);
        }
        if (refusals < 1000) {
            wrong++;
            System.out.println("but " + refusals + " refused calls");
        }
        System.out.println(wrong == 0 ? "refused: " + refusals + " calls change nothing" : "refused: " + wrong + " calls change something");
        if (wrong != 0) System.exit(1);
    }
}
