import java.util.LinkedHashMap;
import java.util.List;
import java.util.Map;

/**
 * What can be seen of an object behind a run of calls, by asking it everything: in pieces, each on an object
 * of its own that has had the same calls, as one object answers no more than 512.
 */
final class Looks {
    private static final List<Run.Call> NOTHING = new Run("").calls();
    private static final List<Run.Call> STATE = new Run(state()).calls();
    private static final List<Run.Call> CUBES = new Run(cubes()).calls();
    private static final List<Run.Call> RULES = new Run(rules()).calls();
    private static final List<Run.Call> TICK = new Run("ticks 1").calls();
    private static final List<Run.Call> RESTORE = new Run("restore").calls();

    private Looks() {
    }

    /** All answers behind these calls: of what is, of what is a TICK later, of THE IMAGE, of the PROGRAMS. */
    static Map<String, String> behind(List<Run.Call> run) {
        Map<String, String> seen = new LinkedHashMap<>();
        look(seen, "now", run, NOTHING, STATE);
        look(seen, "a tick later", run, TICK, CUBES);
        look(seen, "restored", run, RESTORE, CUBES);
        CubeFolk folk = new CubeFolk();
        ask(folk, run, null, "");
        ask(folk, RULES, seen, "running");
        return seen;
    }

    private static void look(Map<String, String> seen, String when, List<Run.Call> run, List<Run.Call> then, List<Run.Call> asked) {
        int piece = Run.MOST_CALLS - run.size() - then.size();
        if (piece < RULES.size()) {
            throw new IllegalStateException("a run of " + run.size() + " calls leaves no room for looking");
        }
        for (int from = 0; from < asked.size(); from += piece) {
            CubeFolk folk = new CubeFolk();
            ask(folk, run, null, "");
            ask(folk, then, seen, when);
            ask(folk, asked.subList(from, Math.min(asked.size(), from + piece)), seen, when);
        }
    }

    private static void ask(CubeFolk folk, List<Run.Call> calls, Map<String, String> seen, String when) {
        for (int k = 0; k < calls.size(); k++) {
            String got = Run.answer(folk, calls.get(k));
            if (seen != null) {
                seen.put(when + (calls == RULES ? ", call " + k : "") + ": " + calls.get(k), got);
            }
        }
    }

    private static String state() {
        StringBuilder b = new StringBuilder("moves\nbroken\n").append(cubes());
        for (int cube = 0; cube < 16; cube++) {
            b.append("about " + cube + " 5\nrule " + cube + "\nwrong " + cube + " -1\n");
            for (int way = 0; way < 8; way++) b.append("can " + (8 * cube + way) + "\n");
            for (int tick = 0; tick < 6; tick++) b.append("believed " + cube + " " + tick + " -1\n");
        }
        for (int x = 0; x < 10; x++) {
            for (int y = 0; y < 8; y++) b.append("at " + x + " " + y + "\n");
        }
        for (int d = 0; d < 8; d++) {
            b.append("sum " + d + "\ntoss " + d + "\njudge " + d + "\nfault " + d + " 0\nfault " + d + " 1\n");
            for (int i = 0; i < 12; i++) b.append("element " + d + " " + i + "\n");
            b.append("element " + d + " 88\nelement " + d + " 89\n");
        }
        return b.append("image\n").toString();
    }

    /** What THE IMAGE keeps; power, memory and what was said of each CUBE among it. */
    private static String cubes() {
        StringBuilder b = new StringBuilder();
        for (int what = 0; what < 9; what++) b.append("count " + what + "\n");
        for (int cube = 0; cube < 16; cube++) {
            for (int what : new int[] {0, 1, 2, 3, 4, 7, 8, 9}) b.append("about " + cube + " " + what + "\n");
            b.append("wrong " + cube + " 0\n");
        }
        for (int shape = 0; shape < 8; shape++) {
            for (int what = 0; what < 4; what++) b.append("met " + shape + " " + what + "\n");
            for (int k = 0; k < 8; k++) b.append("in " + shape + " " + k + " " + k % 3 + "\n");
        }
        return b.toString();
    }

    /** What each PROGRAM does with the first CUBE. */
    private static String rules() {
        StringBuilder b = new StringBuilder();
        for (int program = 0; program < 8; program++) {
            b.append("gives 0 " + program + "\nrule 0\nticks 1\nabout 0 7\nabout 0 8\n");
        }
        return b.toString();
    }
}
