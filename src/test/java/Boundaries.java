import java.util.ArrayList;
import java.util.List;
import java.util.Map;

/**
 * Sentences of DOC.md that name a boundary case, each with a run of calls of its own on a new object. Behind each
 * run it is looked whether a call that was refused, or that only asks, changed anything.
 */
final class Boundaries {
    private static final List<String> ASKING = List.of("about", "at", "can", "moves", "broken", "fault", "in", "met", "plan",
            "planned", "judge", "rule", "believed", "wrong", "count", "element", "sum", "toss");

    private final String of;
    private int sentences;
    private int wrong;

    Boundaries(String of) {
        this.of = of;
    }

    void sentence(String said, String told) {
        sentences++;
        Run run = new Run(told);
        String fault = run.firstWrong();
        if (fault == null) {
            fault = firstThatChanges(run.calls());
        }
        if (fault != null) {
            wrong(said, fault);
        }
    }

    /** For a sentence that is looked at otherwise: what is wrong, or null. */
    void sentence(String said, List<String> faults) {
        sentences++;
        if (!faults.isEmpty()) {
            wrong(said, faults.get(0));
        }
    }

    private void wrong(String said, String fault) {
        wrong++;
        System.out.println(of + ": \"" + said + "\": " + fault);
    }

    void end() {
        System.out.println(of + ": " + sentences + " sentences, " + wrong + " broken");
        if (wrong != 0 || sentences == 0) System.exit(1);
    }

    /** Each refused call by itself; those that only ask all at once. */
    private static String firstThatChanges(List<Run.Call> calls) {
        for (int k = 0; k < calls.size(); k++) {
            boolean again = k > 0 && calls.get(k).toString().equals(calls.get(k - 1).toString());
            if (calls.get(k).isRefused() && !isAsking(calls.get(k)) && !again) {
                List<Run.Call> ahead = calls.subList(0, k);
                String changed = difference(ahead, calls.subList(0, k + 1));
                if (changed != null) {
                    return "the refused call " + k + ", " + calls.get(k) + ", changed " + changed;
                }
            }
        }
        List<Run.Call> changing = new ArrayList<>();
        for (Run.Call call : calls) {
            if (!isAsking(call)) {
                changing.add(call);
            }
        }
        String changed = changing.size() < calls.size() ? difference(changing, calls) : null;
        return changed == null ? null : "a call that only asks changed " + changed;
    }

    private static boolean isAsking(Run.Call call) {
        return ASKING.contains(call.name());
    }

    private static String difference(List<Run.Call> without, List<Run.Call> with) {
        Map<String, String> due = Looks.behind(without);
        Map<String, String> got = Looks.behind(with);
        for (String asked : due.keySet()) {
            if (!due.get(asked).equals(got.get(asked))) {
                return "\"" + asked + "\" from " + due.get(asked) + " to " + got.get(asked);
            }
        }
        return null;
    }
}
