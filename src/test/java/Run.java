import java.lang.reflect.InvocationTargetException;
import java.lang.reflect.Method;
import java.lang.reflect.Modifier;
import java.util.ArrayList;
import java.util.HashMap;
import java.util.List;
import java.util.Map;

/**
 * Runs of calls told as text, a call a line: its name, its numbers, and behind an arrow the answer that is due.
 *
 * <p>A line without an arrow makes things ready: it must not be refused. "12 times" ahead of a line says it so often;
 * " / " parts several calls in one line. Lines that stand for several calls:
 * <pre>
 * cubes KIND POWER x,y x,y ..      a CUBE in each of these CELLS
 * abouts CUBE -> 11 answers        about, what from 0 to 10
 * counts -> 9 answers              count, what from 0 to 8
 * ways CUBE -> 8 answers           can, of the 8 WAYS
 * loads -> answers                 about 5 of the CUBES from 0 on
 * text SHELF TEXT                  a ROW of bytes with this TEXT
 * shorts SHELF v v ..              a ROW of shorts with these elements
 * shapeOf TEXT -> answer           text 7 and shape 7; so do programOf, shapeFault and programFault
 * </pre>
 */
final class Run {
    /** An object's calls are promised so far, and no further. */
    static final int MOST_CALLS = 512;

    /** A call, and the answer that is due (null: any but a refusal). */
    record Call(String name, Object[] args, String due) {
        boolean isRefused() {
            return due != null && (due.startsWith("throws.") || (due.startsWith("-") && !isNone()));
        }

        /** The one call whose -4 is no refusal, but what was before. */
        private boolean isNone() {
            return name.equals("gives") && due.equals("-4");
        }

        @Override
        public String toString() {
            StringBuilder b = new StringBuilder(name);
            for (Object a : args) {
                b.append(' ').append(a);
            }
            return b.toString();
        }
    }

    private static final Map<String, Method> FACE = face();

    private final List<Call> calls = new ArrayList<>();

    Run(String told) {
        for (String line : told.split("\n")) {
            if (!line.isBlank() && !line.strip().startsWith("#")) {
                readLine(line.strip());
            }
        }
    }

    List<Call> calls() {
        return calls;
    }

    private static Map<String, Method> face() {
        Map<String, Method> all = new HashMap<>();
        for (Method m : CubeFolk.class.getDeclaredMethods()) {
            if (Modifier.isPublic(m.getModifiers())) {
                all.put(m.getName(), m);
            }
        }
        return all;
    }

    private void readLine(String line) {
        int arrow = line.lastIndexOf(" -> ");
        String told = arrow < 0 ? line : line.substring(0, arrow);
        String[] due = arrow < 0 ? new String[0] : line.substring(arrow + 4).strip().split(" +");
        int times = 1;
        int behind = told.indexOf(" times ");
        if (behind > 0) {
            times = Integer.parseInt(told.substring(0, behind).strip());
            told = told.substring(behind + 7);
        }
        for (int k = 0; k < times; k++) {
            for (String one : told.split(" / ")) {
                readOne(one.strip(), due);
            }
        }
    }

    private void readOne(String told, String[] due) {
        String[] words = told.split(" +");
        switch (words[0]) {
            case "cubes":
                for (int k = 3; k < words.length; k++) {
                    String[] place = words[k].split(",");
                    add(null, "cube", words[1], place[0], place[1], words[2]);
                }
                break;
            case "abouts": addEach(due, 11, "about", words[1]); break;
            case "counts": addEach(due, 9, "count"); break;
            case "ways": addWays(due, Integer.parseInt(words[1])); break;
            case "loads": addLoads(due); break;
            case "text": addText(Integer.parseInt(words[1]), words.length > 2 ? words[2] : ""); break;
            case "shorts": addShorts(words); break;
            case "shapeOf": case "programOf": case "shapeFault": case "programFault":
                addReading(words[0], words.length > 1 ? words[1] : "", due[0]);
                break;
            default:
                add(due.length == 0 ? null : due[0], words[0], java.util.Arrays.copyOfRange(words, 1, words.length));
        }
    }

    private void addEach(String[] due, int size, String name, String... ahead) {
        expect(due.length == size, name + " wants " + size + " answers");
        for (int k = 0; k < size; k++) {
            String[] words = java.util.Arrays.copyOf(ahead, ahead.length + 1);
            words[ahead.length] = String.valueOf(k);
            add(due[k], name, words);
        }
    }

    private void addWays(String[] due, int cube) {
        expect(due.length == 8, "ways wants 8 answers");
        for (int way = 0; way < 8; way++) {
            add(due[way], "can", String.valueOf(8 * cube + way));
        }
    }

    private void addLoads(String[] due) {
        for (int c = 0; c < due.length; c++) {
            add(due[c], "about", String.valueOf(c), "5");
        }
    }

    private void addText(int d, String text) {
        calls.add(new Call("row", new Object[] {d, 0, text.length()}, "0"));
        for (int i = 0; i < text.length(); i++) {
            calls.add(new Call("put", new Object[] {d, i, (int) text.charAt(i)}, "0"));
        }
    }

    private void addShorts(String[] words) {
        add("0", "row", words[1], "1", String.valueOf(words.length - 2));
        for (int i = 2; i < words.length; i++) {
            add("0", "put", words[1], String.valueOf(i - 2), words[i]);
        }
    }

    private void addReading(String told, String text, String due) {
        addText(7, text);
        switch (told) {
            case "shapeOf": add(due, "shape", "7"); break;
            case "programOf": add(due, "program", "7"); break;
            case "shapeFault": add(due, "fault", "7", "0"); break;
            default: add(due, "fault", "7", "1");
        }
    }

    private void add(String due, String name, String... words) {
        Object[] args = new Object[words.length];
        for (int k = 0; k < words.length; k++) {
            args[k] = valueOf(words[k]);
        }
        expect(FACE.containsKey(name) && FACE.get(name).getParameterCount() == args.length, "no such call: " + name);
        calls.add(new Call(name, args, due));
    }

    private static Object valueOf(String word) {
        switch (word) {
            case "true": return true;
            case "false": return false;
            case "min": return Integer.MIN_VALUE;
            case "max": return Integer.MAX_VALUE;
            default: return Integer.parseInt(word);
        }
    }

    private static void expect(boolean holds, String what) {
        if (!holds) {
            throw new IllegalArgumentException(what);
        }
    }

    /** The answer of a call; an exception by its name. */
    static String answer(CubeFolk folk, Call call) {
        try {
            return String.valueOf(FACE.get(call.name).invoke(folk, call.args));
        } catch (InvocationTargetException e) {
            return "throws." + e.getCause().getClass().getSimpleName();
        } catch (IllegalAccessException e) {
            throw new AssertionError(e);
        }
    }

    /** What is wrong with the first answer that is not as due, on a new object; null if all are. */
    String firstWrong() {
        CubeFolk folk = new CubeFolk();
        if (calls.size() > MOST_CALLS) {
            return "has " + calls.size() + " calls";
        }
        for (int k = 0; k < calls.size(); k++) {
            Call call = calls.get(k);
            String got = answer(folk, call);
            boolean holds = call.due != null ? got.equals(call.due) : !new Call(call.name, call.args, got).isRefused();
            if (!holds) {
                return "call " + k + ", " + call + ", answered " + got + ", due is "
                        + (call.due != null ? call.due : "no refusal");
            }
        }
        return null;
    }
}
