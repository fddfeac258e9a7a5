import java.lang.reflect.Method;
import java.nio.file.Files;
import java.nio.file.Path;
import java.util.Arrays;
import java.util.HashMap;
import java.util.List;
import java.util.Map;

/**
 * Plays the runs under src/test/runs, each call with the answer that is due. A line there is one of
 * new (a new object), promise N (what the lines behind it are about), codes K LANE numbers (a sheet gets these
 * cells), ones K N (N cells of lane 0, each 1), text K LANE signs (it gets these signs' codes), call(numbers) = answer, times N call(numbers) = answer
 * (the call N times, each with that answer), # remark.
 */
public final class RunsTest {
    private static final Map<String, Method> CALLS = new HashMap<>();
    private static final Map<String, Long> NAMES = Map.of("UNKNOWN", -1L, "OUTSIDE", -2L, "STATE", -3L, "FULL", -4L,
        "GAP", -7L, "NONE", -9L, "NULL", -11L, "CAST", -12L, "INDEX", -13L, "LOST", Long.MIN_VALUE);
    private static final int[] CHECKS = new int[61];
    private static int wrong;
    private static SeenWords object;
    private static int promise;

    private static long number(String text) {
        if (text.equals("SIZE")) return -14;
        if (text.equals("MIN")) return Integer.MIN_VALUE;
        if (text.equals("MAX")) return Integer.MAX_VALUE;
        Long named = NAMES.get(text);
        return named != null ? named : Long.parseLong(text);
    }

    private static void fill(int k, int lane, int[] cells) {
        object.sheet(k, lane, cells.length);
        for (int i = 0; i < cells.length; i++) object.set(k, i, cells[i]);
    }

    private static long call(String text) throws Exception {
        int open = text.indexOf('(');
        String inside = text.substring(open + 1, text.indexOf(')')).trim();
        Object[] args = inside.isEmpty() ? new Object[0]
            : Arrays.stream(inside.split(",")).map(a -> (Object) (int) number(a.trim())).toArray();
        return ((Number) CALLS.get(text.substring(0, open)).invoke(object, args)).longValue();
    }

    private static void check(Path file, int line, String text) throws Exception {
        int is = text.lastIndexOf('=');
        long due = number(text.substring(is + 1).trim()), got = call(text.substring(0, is).trim());
        CHECKS[promise]++;
        if (got != due) {
            wrong++;
            System.out.println(file.getFileName() + ":" + line + ": " + text + " answered " + got);
        }
    }

    private static void play(Path file) throws Exception {
        List<String> lines = Files.readAllLines(file);
        for (int l = 0; l < lines.size(); l++) {
            String line = lines.get(l).trim();
            String[] parts = line.split(" +");
            if (line.isEmpty() || line.startsWith("#")) continue;
            if (line.equals("new")) object = new SeenWords();
            else if (parts[0].equals("promise")) promise = Integer.parseInt(parts[1]);
            else if (parts[0].equals("codes"))
                fill(Integer.parseInt(parts[1]), Integer.parseInt(parts[2]),
                    Arrays.stream(parts).skip(3).mapToInt(Integer::parseInt).toArray());
            else if (parts[0].equals("ones")) {
                int[] ones = new int[Integer.parseInt(parts[2])];
                Arrays.fill(ones, 1);
                fill(Integer.parseInt(parts[1]), 0, ones);
            } else if (parts[0].equals("text"))
                fill(Integer.parseInt(parts[1]), Integer.parseInt(parts[2]), parts[3].chars().toArray());
            else if (parts[0].equals("times"))
                for (int k = Integer.parseInt(parts[1]); k > 0; k--) check(file, l + 1, line.split(" +", 3)[2]);
            else check(file, l + 1, line);
        }
    }

    public static void main(String[] args) throws Exception {
        for (Method m : SeenWords.class.getDeclaredMethods()) {
            if (java.lang.reflect.Modifier.isPublic(m.getModifiers())) CALLS.put(m.getName(), m);
        }
        try (var files = Files.list(Path.of("src/test/runs"))) {
            for (Path file : files.sorted().toList()) play(file);
        }
        for (int p = 1; p <= 60; p++) {
            if (CHECKS[p] < 3) {
                wrong++;
                System.out.println("promise " + p + " has but " + CHECKS[p] + " checks");
            }
        }
        System.out.println(wrong == 0 ? "runs: all answers are as due" : "runs: " + wrong + " are not as due");
        if (wrong != 0) System.exit(1);
    }
}
