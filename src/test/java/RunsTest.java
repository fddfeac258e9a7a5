import java.util.Arrays;
import java.util.List;

/** Plays the runs (their form: Runs): each call's answer is the one that is due. */
public final class RunsTest {
    private static final int CALLS = 512;
    private static final int[] CHECKS = new int[61], TESTS = new int[61];
    private static int wrong;

    private static void say(String what) {
        wrong++;
        System.out.println(what);
    }

    private static void play(Runs.Run run) {
        Runs.Player player = new Runs.Player();
        for (Runs.Step step : run.steps()) {
            int[] args = player.numbers(step.args());
            long due = player.number(step.due());
            long got = player.play(step.name(), args);
            CHECKS[step.promise()]++;
            if (got != due) {
                say(run.file().getFileName() + ":" + step.line() + ": " + run.test() + ": " + step.name()
                    + Arrays.toString(args) + " answered " + got + ", due is " + due);
            }
        }
        if (player.calls > CALLS) say(run.file() + ":" + run.line() + ": an object has " + player.calls + " calls");
    }

    public static void main(String[] args) throws Exception {
        List<Runs.Run> runs = Runs.read();
        for (Runs.Run run : runs) {
            play(run);
            if (!run.test().equals("a run")) TESTS[run.promise()]++;
        }
        for (int p = 1; p <= 60; p++) {
            if (CHECKS[p] < 3) say("promise " + p + " has but " + CHECKS[p] + " checks");
            if (TESTS[p] < 1) say("promise " + p + " has no test of a sentence");
        }
        System.out.println(wrong == 0 ? "runs: all " + runs.size() + " as due" : "runs: " + wrong + " answers are not as due");
        if (wrong != 0) System.exit(1);
    }
}
