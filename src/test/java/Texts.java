import java.util.ArrayList;
import java.util.List;

/** FAULTS of texts, each on an object of its own. */
final class Texts {
    private Texts() {
    }

    /** What fault answers of a text as a SHAPE (0) or a PROGRAM (1). */
    static int fault(String text, int what) {
        return faultOf(text.chars().toArray(), what);
    }

    private static int faultOf(int[] bytes, int what) {
        CubeFolk folk = new CubeFolk();
        folk.row(0, 0, bytes.length);
        for (int i = 0; i < bytes.length; i++) {
            folk.put(0, i, bytes[i]);
        }
        return folk.fault(0, what);
    }

    /** Each of the 256 bytes behind a beginning: the FAULT is its place, but for those that can go on. */
    static List<String> goesOn(String ahead, int what, String can) {
        List<String> faults = new ArrayList<>();
        int[] bytes = java.util.Arrays.copyOf(ahead.chars().toArray(), ahead.length() + 1);
        for (int b = -128; b <= 127; b++) {
            bytes[ahead.length()] = b;
            int got = faultOf(bytes, what);
            boolean due = b > 0 && can.indexOf(b) >= 0;
            if (due != (got == bytes.length || got == -4) || (!due && got != ahead.length())) {
                faults.add("\"" + ahead + "\" and byte " + b + ": FAULT " + got + (due ? ", though it can go on" : ""));
            }
        }
        return faults;
    }
}
