import java.io.IOException;
import java.lang.reflect.InvocationTargetException;
import java.lang.reflect.Method;
import java.nio.file.Files;
import java.nio.file.Path;
import java.util.ArrayList;
import java.util.Arrays;
import java.util.HashMap;
import java.util.List;
import java.util.Map;

/**
 * Reads the runs under src/test/runs and src/test/edges: calls on new objects, each with the answer that is due. A line
 * there is a remark (#) or statements with ; between them. A statement is one of
 *   new                          a new object
 *   test SENTENCE                a new object; what follows is the test of this sentence (alone on its line)
 *   promise N                    what follows is about this promise
 *   define NAME .. end, do NAME  lines that are played wherever they are told
 *   call(numbers) = answer
 *   times N call(numbers) = answer       the call N times, each with that answer
 *   from A times N call(numbers)         the call N times, with the answers A, A + 1, ..
 *   codes K LANE numbers         a sheet gets these cells
 *   cells K LANE N V             a sheet gets N cells, each V
 *   text K LANE signs            a sheet gets these signs' codes
 *   row W = places               what a writing shows now (or row W @M = places: as of a moment); G is a gap
 *   version V = places           what a version shows
 *   has W = own F N, seen F N, span A N of W at M, live A N of W        the pieces of a writing
 * A number may be NOW, NOW-1, .., MIN, MAX, the name of a constant, or of a fault as it is answered.
 */
final class Runs {
    static final long LOST = Long.MIN_VALUE;
    private static final Map<String, Long> NAMES = Map.ofEntries(Map.entry("UNKNOWN", -1L), Map.entry("OUTSIDE", -2L),
        Map.entry("STATE", -3L), Map.entry("FULL", -4L), Map.entry("GAP", -7L), Map.entry("G", -7L),
        Map.entry("NONE", -9L), Map.entry("NULL", -11L), Map.entry("CAST", -12L), Map.entry("INDEX", -13L),
        Map.entry("SIZE", -14L), Map.entry("MIN", (long) Integer.MIN_VALUE), Map.entry("MAX", (long) Integer.MAX_VALUE),
        Map.entry("LOST", LOST));
    private static final Map<String, Method> CALLS = new HashMap<>();

    static {
        for (Method m : SeenWords.class.getDeclaredMethods()) {
            if (java.lang.reflect.Modifier.isPublic(m.getModifiers())) CALLS.put(m.getName(), m);
        }
    }

    /** A call with its arguments, and the answer that is due. */
    record Step(int line, int promise, String name, String[] args, String due) { }

    /** What one object is used for. */
    record Run(Path file, int line, int promise, String test, List<Step> steps) { }

    /** An object that counts its calls, and knows what NOW is. */
    static final class Player {
        final SeenWords object = new SeenWords();
        int calls;
        private long now = -1;

        long number(String text) {
            if (text.startsWith("NOW")) return now() + (text.length() > 3 ? Long.parseLong(text.substring(3)) : 0);
            Long named = NAMES.get(text);
            return named != null ? named : Long.parseLong(text);
        }

        private long now() {
            if (now < 0) {
                now = object.many(0);
                calls++;
            }
            return now;
        }

        int[] numbers(String[] args) {
            int[] all = new int[args.length];
            for (int i = 0; i < all.length; i++) all[i] = (int) number(args[i]);
            return all;
        }

        long play(String name, int... args) {
            calls++;
            try {
                long answer = ((Number) CALLS.get(name).invoke(object, Arrays.stream(args).boxed().toArray())).longValue();
                if (answer >= 0) now = -1;
                return answer;
            } catch (InvocationTargetException e) {
                throw new IllegalStateException(name + Arrays.toString(args) + " threw", e.getCause());
            } catch (IllegalAccessException e) {
                throw new IllegalStateException(e);
            }
        }
    }

    private final List<Run> all = new ArrayList<>();
    private final Map<String, List<String>> defined = new HashMap<>();
    private Path file;
    private int line;
    private int promise;
    private Run run;

    static List<Run> read() throws IOException {
        Runs runs = new Runs();
        for (String folder : new String[] {"src/test/runs", "src/test/edges"}) {
            try (var files = Files.list(Path.of(folder))) {
                for (Path f : files.sorted().toList()) runs.readFile(f);
            }
        }
        return runs.all;
    }

    private void readFile(Path path) throws IOException {
        file = path;
        List<String> lines = Files.readAllLines(path);
        List<String> defining = null;
        for (int l = 0; l < lines.size(); l++) {
            line = l + 1;
            String text = lines.get(l).trim();
            if (text.isEmpty() || text.startsWith("#")) continue;
            if (text.startsWith("define ")) {
                defining = new ArrayList<>();
                if (defined.put(text.substring(7).trim(), defining) != null) throw bad(text);
            } else if (text.equals("end")) {
                defining = null;
            } else if (defining != null) {
                defining.add(text);
            } else {
                readLine(text);
            }
        }
    }

    private IllegalStateException bad(String text) { return new IllegalStateException(file + ":" + line + ": " + text); }

    private void begin(String test) {
        run = new Run(file, line, promise, test, new ArrayList<>());
        all.add(run);
    }

    private void readLine(String text) {
        if (text.startsWith("test ")) begin(text.substring(5).trim());
        else for (String statement : text.split(";")) readStatement(statement.trim());
    }

    private void readStatement(String text) {
        String[] parts = text.split(" +");
        int is = text.indexOf(" =");
        String behind = is < 0 ? "" : text.substring(is + 2).trim();
        switch (parts[0]) {
            case "new": begin("a run"); break;
            case "promise": promise = Integer.parseInt(parts[1]); break;
            case "do":
                if (!defined.containsKey(parts[1])) throw bad(text);
                for (String each : defined.get(parts[1])) readLine(each);
                break;
            case "times":
                for (int k = Integer.parseInt(parts[1]); k > 0; k--) readCall(text.split(" +", 3)[2]);
                break;
            case "from":
                int first = Integer.parseInt(parts[1]);
                for (int k = 0; k < Integer.parseInt(parts[3]); k++) readCall(text.split(" +", 5)[4] + " = " + (first + k));
                break;
            case "codes": fill(parts[1], parts[2], Arrays.copyOfRange(parts, 3, parts.length)); break;
            case "text": fill(parts[1], parts[2], parts[3].chars().mapToObj(String::valueOf).toArray(String[]::new)); break;
            case "cells": fillAlike(parts[1], parts[2], Integer.parseInt(parts[3]), parts[4]); break;
            case "row":
                String as = parts[2].startsWith("@") ? parts[2].substring(1) : "NOW";
                row("length", "shown", behind, parts[1], as);
                break;
            case "version": if (text.contains("(")) readCall(text); else version(behind, parts[1]); break;
            case "has": pieces(parts[1], behind); break;
            default: readCall(text);
        }
    }

    private void step(String due, String name, String... args) {
        if (run == null || !CALLS.containsKey(name) || args.length != CALLS.get(name).getParameterCount()) throw bad(name);
        run.steps().add(new Step(line, promise, name, args, due));
    }

    private void readCall(String text) {
        int open = text.indexOf('('), close = text.indexOf(')'), is = text.lastIndexOf('=');
        if (open < 0 || close < open || is < close) throw bad(text);
        String inside = text.substring(open + 1, close).trim();
        step(text.substring(is + 1).trim(), text.substring(0, open).trim(), inside.isEmpty() ? new String[0] : inside.split(" *, *"));
    }

    private void fill(String k, String lane, String[] cells) {
        step("1", "sheet", k, lane, "" + cells.length);
        for (int i = 0; i < cells.length; i++) step("1", "set", k, "" + i, cells[i]);
    }

    private void fillAlike(String k, String lane, int n, String v) {
        step("1", "sheet", k, lane, "" + n);
        step("1", "set", k, "0", v);
        for (int have = 1; have < n; have *= 2) {
            String more = "" + Math.min(have, n - have);
            step(more, "copy", k, "0", k, "" + have, more);
        }
    }

    private static List<String> places(String text) {
        List<String> all = new ArrayList<>();
        for (String place : text.split(" +")) {
            int dots = place.indexOf("..");
            if (dots > 0) {
                int last = Integer.parseInt(place.substring(dots + 2));
                for (int x = Integer.parseInt(place.substring(0, dots)); x <= last; x++) all.add("" + x);
            } else if (!place.isEmpty()) {
                all.add(place);
            }
        }
        return all;
    }

    private void row(String length, String shown, String text, String w, String as) {
        List<String> places = places(text);
        step("" + places.size(), length, w, as);
        for (int p = 0; p < places.size(); p++) step(places.get(p), shown, w, as, "" + p);
        step("UNKNOWN", shown, w, as, "" + places.size());
    }

    private void version(String text, String v) {
        List<String> places = places(text);
        step("" + places.size(), "about", v, "3");
        for (int p = 0; p < places.size(); p++) step(places.get(p), "at", v, "" + p);
        step("UNKNOWN", "at", v, "" + places.size());
    }

    private void pieces(String w, String text) {
        String[] pieces = text.isEmpty() ? new String[0] : text.split(" *, *");
        step("" + pieces.length, "pieces", w);
        for (int p = 0; p < pieces.length; p++) {
            String[] parts = pieces[p].split(" +");
            String kind = "" + List.of("own", "seen", "span", "live").indexOf(parts[0]);
            String of = parts.length > 4 ? parts[4] : "NONE", at = parts.length > 6 ? parts[6] : "NONE";
            String[] due = {kind, parts[1], parts[2], of, at};
            for (int what = 0; what < 5; what++) step(due[what], "piece", w, "" + p, "" + what);
        }
    }
}
