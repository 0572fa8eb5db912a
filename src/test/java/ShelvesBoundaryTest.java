/** The boundary cases that DOC.md names of SHELVES: promises 28 to 34. */
public final class ShelvesBoundaryTest {
    private static final Boundaries SHELVES = new Boundaries("shelves");
    private static final String NO_SHELF = "throws.IllegalArgumentException";
    private static final String NO_ELEMENT = "throws.IllegalStateException";

    private static void keep() {
        SHELVES.sentence("28: -1: SHELVES are 0 .. 7", """
            cube 1 0 0 0 -> 0
            keep -1 1 0 -> -1
            keep 8 1 0 -> -1
            keep min 1 0 -> -1
            keep max 0 0 -> -1
            keep -1 0 0 -> -1
            keep 8 0 0 -> -1
            keep 0 1 0 -> 0
            keep 7 1 0 -> 0
            sum 0 -> 165
            sum 7 -> 165
            sum 1 -> -11
            """);
        SHELVES.sentence("28: -1: what is 0 or 1", """
            cube 1 0 0 0 -> 0
            keep 0 1 0 -> 0
            keep 0 -1 0 -> -1
            keep 0 2 0 -> -1
            keep 0 min 0 -> -1
            keep 0 max 0 -> -1
            sum 0 -> 165
            """);
        SHELVES.sentence("28: -1: a CUBE that isn't there; what was held stays", """
            keep 0 1 0 -> -1
            cubes 1 0 0,0 1,0
            keep 0 1 2 -> -1
            keep 0 1 -1 -> -1
            keep 0 1 min -> -1
            keep 0 1 max -> -1
            sum 0 -> -11
            keep 0 1 1 -> 0
            keep 0 1 2 -> -1
            toss 0 -> 8
            """);
        SHELVES.sentence("28: what 0: nothing; the others do not matter", """
            keep 0 0 0 -> 0
            keep 7 0 -1 -> 0
            cube 1 0 0 0 -> 0
            keep 0 1 0 -> 0
            keep 0 0 1 -> 0
            sum 0 -> -11
            row 0 0 3
            keep 0 0 max -> 0
            sum 0 -> -11
            put 0 0 0 -> -11
            keep 0 0 min -> 0
            """);
        SHELVES.sentence("28: a CUBE of 16, the last one", """
            cubes 0 0 0,0 1,0 2,0 3,0 4,0 5,0 6,0 7,0 8,0 9,0 0,1 1,1 2,1 3,1 4,1
            keep 0 1 15 -> -1
            cube 1 5 1 0 -> 15
            keep 0 1 15 -> 0
            toss 0 -> 41
            keep 0 1 16 -> -1
            """);
        SHELVES.sentence("a CUBE (as then): what it becomes later doesn't matter", """
            cube 2 3 0 9 -> 0
            keep 0 1 0 -> 0
            charge 0 50 -> 9
            move 0 -> 49
            dead 0 true -> 1
            sum 0 -> 117
            toss 0 -> 24
            keep 1 1 0 -> 0
            sum 1 -> 157
            toss 1 -> -15
            dead 0 false -> 1
            toss 1 -> -15
            """);
        SHELVES.sentence("a CUBE (as then): it stays though it is there no more", """
            image -> 0
            cube 1 3 0 9 -> 0
            keep 0 1 0 -> 0
            restore -> 0
            keep 1 1 0 -> -1
            sum 0 -> 165
            toss 0 -> 24
            """);
    }

    private static void row() {
        SHELVES.sentence("29: -1: SHELVES are 0 .. 7", """
            row -1 0 1 -> -1
            row 8 0 1 -> -1
            row min 0 1 -> -1
            row max 0 1 -> -1
            row 0 0 1 -> 0
            row 7 0 1 -> 0
            """);
        SHELVES.sentence("29: -1: a SORT is 0 .. 2", """
            row 0 -1 1 -> -1
            row 0 3 1 -> -1
            row 0 min 1 -> -1
            row 0 max 1 -> -1
            put 0 0 0 -> -11
            row 0 0 1 -> 0
            row 0 3 1 -> -1
            put 0 0 300 -> 0
            element 0 0 -> 44
            row 1 2 1 -> 0
            put 1 0 300 -> 0
            element 1 0 -> 300
            """);
        SHELVES.sentence("29: 0 .. 90 elements: -1 above", """
            row 0 2 91 -> -1
            row 0 2 max -> -1
            element 0 0 -> throws.IllegalStateException
            row 0 2 90 -> 0
            put 0 89 7 -> 0
            put 0 90 7 -> -13
            row 0 2 91 -> -1
            element 0 89 -> 7
            element 0 90 -> throws.IllegalStateException
            """);
        SHELVES.sentence("29: 0 .. 90 elements: -14 below", """
            row 0 2 -1 -> -14
            row 0 2 min -> -14
            put 0 0 0 -> -11
            row 0 2 0 -> 0
            put 0 0 0 -> -13
            element 0 0 -> throws.IllegalStateException
            row 1 0 3 -> 0
            put 1 2 5 -> 0
            row 1 2 -1 -> -14
            element 1 2 -> 5
            """);
        SHELVES.sentence("29: -1 ahead of -14", """
            row 8 0 -1 -> -1
            row -1 0 -1 -> -1
            row 0 3 -1 -> -1
            row 0 -1 -1 -> -1
            row 0 0 -1 -> -14
            """);
        SHELVES.sentence("a ROW's elements are 0 at first, of one in another's place too", """
            row 0 2 90 -> 0
            element 0 0 -> 0
            element 0 89 -> 0
            put 0 0 5 -> 0
            put 0 89 6 -> 0
            row 0 2 90 -> 0
            element 0 0 -> 0
            element 0 89 -> 0
            put 0 1 7 -> 0
            row 0 1 1 -> 0
            row 0 2 2 -> 0
            element 0 1 -> 0
            """);
        SHELVES.sentence("29: a ROW in the place of a CUBE, and a CUBE in the place of a ROW", """
            cube 1 0 0 0 -> 0
            keep 0 1 0 -> 0
            row 0 0 2 -> 0
            sum 0 -> -12
            put 0 1 3 -> 0
            keep 0 1 0 -> 0
            put 0 1 3 -> -12
            element 0 1 -> throws.IllegalStateException
            sum 0 -> 165
            """);
    }

    private static void put() {
        SHELVES.sentence("30: -1: SHELVES are 0 .. 7", """
            row 0 2 1 -> 0
            row 7 2 1 -> 0
            put -1 0 5 -> -1
            put 8 0 5 -> -1
            put min 0 5 -> -1
            put max 0 5 -> -1
            put 0 0 5 -> 0
            put 7 0 6 -> 0
            element 0 0 -> 5
            element 7 0 -> 6
            """);
        SHELVES.sentence("30: -1, -11, -12, -13, in this order", """
            cube 1 0 0 0 -> 0
            keep 1 1 0 -> 0
            row 2 0 3 -> 0
            put 8 9 0 -> -1
            put 0 9 0 -> -11
            put 0 0 0 -> -11
            put 1 9 0 -> -12
            put 1 0 0 -> -12
            put 2 3 0 -> -13
            put 2 2 0 -> 0
            """);
        SHELVES.sentence("30: -13: a place that isn't there", """
            row 0 2 3 -> 0
            put 0 -1 5 -> -13
            put 0 3 5 -> -13
            put 0 min 5 -> -13
            put 0 max 5 -> -13
            element 0 0 -> 0
            element 0 2 -> 0
            put 0 0 5 -> 0
            put 0 2 6 -> 0
            element 0 0 -> 5
            element 0 1 -> 0
            element 0 2 -> 6
            """);
        SHELVES.sentence("bytes keep their lowest 8 bits, from -128 to 127", lowest(0, new long[][] {{127, 127}, {128, -128}, {129, -127},
            {255, -1}, {256, 0}, {257, 1}, {-1, -1}, {-128, -128}, {-129, 127}, {-256, 0}, {Integer.MAX_VALUE, -1}, {Integer.MIN_VALUE, 0},
            {65535, -1}, {0x12345680, -128}}));
        SHELVES.sentence("shorts keep their lowest 16 bits, from -32768 to 32767", lowest(1, new long[][] {{127, 127}, {128, 128}, {32767, 32767},
            {32768, -32768}, {32769, -32767}, {65535, -1}, {65536, 0}, {65537, 1}, {-1, -1}, {-32768, -32768}, {-32769, 32767},
            {Integer.MAX_VALUE, -1}, {Integer.MIN_VALUE, 0}, {0x12348000, -32768}}));
        SHELVES.sentence("ints keep all their bits", lowest(2, new long[][] {{127, 127}, {255, 255}, {65536, 65536}, {-1, -1}, {-32769, -32769},
            {Integer.MAX_VALUE, Integer.MAX_VALUE}, {Integer.MIN_VALUE, Integer.MIN_VALUE}}));
    }

    private static String lowest(int sort, long[][] putAndKept) {
        StringBuilder told = new StringBuilder("row 3 " + sort + " 2 -> 0\n");
        for (long[] one : putAndKept) {
            told.append("put 3 1 ").append(one[0]).append(" -> 0\nelement 3 1 -> ").append(one[1]).append("\n");
        }
        return told.append("element 3 0 -> 0\n").toString();
    }

    private static void element() {
        SHELVES.sentence("31: IllegalArgumentException: no such SHELF", "row 0 2 1 -> 0\nrow 7 2 1 -> 0\nelement -1 0 -> " + NO_SHELF
                + "\nelement 8 0 -> " + NO_SHELF + "\nelement min 0 -> " + NO_SHELF + "\nelement max 0 -> " + NO_SHELF
                + "\nelement 8 -1 -> " + NO_SHELF + "\nelement 0 0 -> 0\nelement 7 0 -> 0");
        SHELVES.sentence("31: IllegalStateException: no ROW", "cube 1 0 0 0 -> 0\nkeep 1 1 0 -> 0\nelement 0 0 -> " + NO_ELEMENT
                + "\nelement 7 -1 -> " + NO_ELEMENT + "\nelement 1 0 -> " + NO_ELEMENT + "\nelement 1 -1 -> " + NO_ELEMENT);
        SHELVES.sentence("31: IllegalStateException: no such place", "row 0 2 3 -> 0\nrow 1 0 0 -> 0\nelement 0 -1 -> " + NO_ELEMENT
                + "\nelement 0 3 -> " + NO_ELEMENT + "\nelement 0 min -> " + NO_ELEMENT + "\nelement 0 max -> " + NO_ELEMENT
                + "\nelement 1 0 -> " + NO_ELEMENT + "\nelement 0 0 -> 0\nelement 0 2 -> 0");
    }

    private static void copy() {
        SHELVES.sentence("32: -1: SHELVES are 0 .. 7, either", """
            row 0 2 2 -> 0
            row 7 2 2 -> 0
            put 0 0 5 -> 0
            copy -1 0 0 0 1 -> -1
            copy 8 0 0 0 1 -> -1
            copy 0 0 -1 0 1 -> -1
            copy 0 0 8 0 1 -> -1
            copy min 0 0 0 1 -> -1
            copy 0 0 max 0 1 -> -1
            copy 0 0 7 1 1 -> 1
            element 7 1 -> 5
            copy 7 1 0 1 1 -> 1
            element 0 1 -> 5
            """);
        SHELVES.sentence("32: -1, -11 (either), -12, -13, in this order", """
            cube 1 0 0 0 -> 0
            keep 1 1 0 -> 0
            row 2 0 3 -> 0
            row 3 1 3 -> 0
            row 4 0 2 -> 0
            copy 8 0 0 0 9 -> -1
            copy 0 0 8 0 9 -> -1
            copy 0 0 2 0 9 -> -11
            copy 2 0 0 0 9 -> -11
            copy 0 0 1 0 9 -> -11
            copy 1 0 0 0 9 -> -11
            copy 0 0 5 0 9 -> -11
            copy 1 0 2 0 9 -> -12
            copy 2 0 1 0 9 -> -12
            copy 1 0 1 0 0 -> -12
            copy 2 0 3 0 9 -> -12
            copy 3 0 2 0 9 -> -12
            copy 2 0 4 0 3 -> -13
            copy 2 0 4 0 2 -> 2
            """);
        SHELVES.sentence("32: -12: no ROWS of one SORT: bytes, shorts, ints", """
            row 0 0 1 -> 0
            row 1 1 1 -> 0
            row 2 2 1 -> 0
            put 2 0 7 -> 0
            copy 0 0 1 0 1 -> -12
            copy 0 0 2 0 1 -> -12
            copy 1 0 0 0 1 -> -12
            copy 1 0 2 0 1 -> -12
            copy 2 0 0 0 1 -> -12
            copy 2 0 1 0 1 -> -12
            copy 0 0 1 0 0 -> -12
            element 0 0 -> 0
            element 1 0 -> 0
            row 3 2 1 -> 0
            copy 2 0 3 0 1 -> 1
            element 3 0 -> 7
            """);
        placesOfCopies();
    }

    private static void placesOfCopies() {
        SHELVES.sentence("32: -13: places that aren't there in the ROW they come from", """
            row 0 2 3 -> 0
            row 1 2 9 -> 0
            put 0 2 7 -> 0
            copy 0 0 1 0 4 -> -13
            copy 0 1 1 0 3 -> -13
            copy 0 3 1 0 1 -> -13
            copy 0 4 1 0 0 -> -13
            copy 0 -1 1 0 1 -> -13
            copy 0 -1 1 0 0 -> -13
            copy 0 min 1 0 1 -> -13
            copy 0 max 1 0 1 -> -13
            copy 0 1 1 0 max -> -13
            copy 0 max 1 0 max -> -13
            element 1 0 -> 0
            copy 0 0 1 0 3 -> 3
            element 1 2 -> 7
            copy 0 2 1 0 1 -> 1
            element 1 0 -> 7
            """);
        SHELVES.sentence("32: -13: places that aren't there in the ROW they come to", """
            row 0 2 9 -> 0
            row 1 2 3 -> 0
            put 0 0 7 -> 0
            copy 0 0 1 0 4 -> -13
            copy 0 0 1 1 3 -> -13
            copy 0 0 1 3 1 -> -13
            copy 0 0 1 4 0 -> -13
            copy 0 0 1 -1 1 -> -13
            copy 0 0 1 -1 0 -> -13
            copy 0 0 1 min 1 -> -13
            copy 0 0 1 max 1 -> -13
            element 1 0 -> 0
            copy 0 0 1 2 1 -> 1
            element 1 2 -> 7
            element 1 0 -> 0
            """);
        SHELVES.sentence("32: none at all, right behind the last ones too: 0", """
            row 0 2 3 -> 0
            row 1 2 0 -> 0
            copy 0 0 0 0 0 -> 0
            copy 0 3 0 3 0 -> 0
            copy 1 0 1 0 0 -> 0
            copy 0 3 1 0 0 -> 0
            copy 1 0 0 0 1 -> -13
            copy 0 0 1 0 1 -> -13
            """);
        SHELVES.sentence("32: -13: fewer than none (NOTES.md)", """
            row 0 2 3 -> 0
            row 1 2 3 -> 0
            copy 0 0 1 0 -1 -> -13
            copy 0 1 1 1 -1 -> -13
            copy 0 0 1 0 min -> -13
            """);
        SHELVES.sentence("32: all 90 elements", """
            row 0 1 90 -> 0
            row 1 1 90 -> 0
            put 0 0 5 -> 0
            put 0 89 6 -> 0
            copy 0 0 1 0 91 -> -13
            copy 0 0 1 0 90 -> 90
            element 1 0 -> 5
            element 1 89 -> 6
            """);
        SHELVES.sentence("32: within one ROW, as they were ahead of it: to the right", """
            row 0 0 4 -> 0
            put 0 0 1 -> 0
            put 0 1 2 -> 0
            put 0 2 3 -> 0
            put 0 3 4 -> 0
            copy 0 0 0 1 3 -> 3
            element 0 0 -> 1
            element 0 1 -> 1
            element 0 2 -> 2
            element 0 3 -> 3
            """);
        SHELVES.sentence("32: within one ROW, as they were ahead of it: to the left", """
            row 0 0 4 -> 0
            put 0 0 1 -> 0
            put 0 1 2 -> 0
            put 0 2 3 -> 0
            put 0 3 4 -> 0
            copy 0 1 0 0 3 -> 3
            element 0 0 -> 2
            element 0 1 -> 3
            element 0 2 -> 4
            element 0 3 -> 4
            """);
    }

    private static void sum() {
        SHELVES.sentence("33: -1, -11, -12", """
            cube 0 0 0 0 -> 0
            sum -1 -> -1
            sum 8 -> -1
            sum min -> -1
            sum max -> -1
            sum 0 -> -11
            sum 7 -> -11
            row 0 0 1 -> 0
            sum 0 -> -12
            row 0 1 0 -> 0
            sum 0 -> -12
            row 0 2 90 -> 0
            sum 0 -> -12
            keep 0 1 0 -> 0
            sum 0 -> 108
            """);
        SHELVES.sentence("33: PLAIN and STRONG: whatever their POWER is", """
            cube 0 0 0 0 -> 0
            cube 1 1 0 0 -> 1
            keep 0 1 0 -> 0
            keep 1 1 1 -> 0
            sum 0 -> 108
            sum 1 -> 165
            charge 0 999 -> 0
            charge 1 999 -> 0
            keep 0 1 0 -> 0
            keep 1 1 1 -> 0
            sum 0 -> 108
            sum 1 -> 165
            """);
        SHELVES.sentence("33: MOTOR and PILOT: with POWER 0 and 999", """
            cube 2 0 0 0 -> 0
            cube 3 1 0 0 -> 1
            keep 0 1 0 -> 0
            keep 1 1 1 -> 0
            sum 0 -> 108
            sum 1 -> 218
            charge 0 999 -> 0
            charge 1 999 -> 0
            keep 0 1 0 -> 0
            keep 1 1 1 -> 0
            sum 0 -> 1107
            sum 1 -> 2216
            """);
        SHELVES.sentence("33: of DEAD ones likewise", """
            cube 3 1 0 5 -> 0
            dead 0 true -> 1
            keep 0 1 0 -> 0
            sum 0 -> 228
            """);
    }

    private static void toss() {
        SHELVES.sentence("34: -1, -11, -12", """
            cube 1 0 0 0 -> 0
            toss -1 -> -1
            toss 8 -> -1
            toss min -> -1
            toss max -> -1
            toss 0 -> -11
            toss 7 -> -11
            row 0 0 1 -> 0
            toss 0 -> -12
            row 0 1 0 -> 0
            toss 0 -> -12
            row 0 2 90 -> 0
            toss 0 -> -12
            keep 0 1 0 -> 0
            toss 0 -> 0
            """);
        SHELVES.sentence("34: -15: PLAIN ones have none, well or DEAD", """
            cube 0 9 0 999 -> 0
            keep 0 1 0 -> 0
            toss 0 -> -15
            dead 0 true -> 1
            keep 0 1 0 -> 0
            toss 0 -> -15
            """);
        SHELVES.sentence("34: -15: all that were DEAD have none, those that are now have", """
            cubes 1 0 0,0
            cubes 2 0 1,0
            cubes 3 0 2,0
            keep 0 1 0 -> 0
            keep 1 1 1 -> 0
            keep 2 1 2 -> 0
            dead 0 true -> 1
            dead 1 true -> 1
            dead 2 true -> 1
            toss 0 -> 0
            toss 1 -> 8
            toss 2 -> 116
            keep 0 1 0 -> 0
            keep 1 1 1 -> 0
            keep 2 1 2 -> 0
            dead 0 false -> 1
            dead 1 false -> 1
            dead 2 false -> 1
            toss 0 -> -15
            toss 1 -> -15
            toss 2 -> -15
            """);
        SHELVES.sentence("34: 8 x and y; of PILOTS 100 more: in x 0, y 0 and in x 9, y 7", """
            cube 3 9 0 0 -> 0
            cubes 0 0 9,1 9,2 9,3 9,4 9,5 9,6
            cube 2 9 7 0 -> 7
            keep 0 1 0 -> 0
            keep 1 1 7 -> 0
            toss 0 -> 172
            toss 1 -> 79
            cubes 0 0 8,0 7,0 6,0 5,0 4,0 3,0 2,0
            cube 3 1 0 0 -> 15
            keep 2 1 15 -> 0
            toss 2 -> 108
            """);
        SHELVES.sentence("34: of PILOTS 100 more: in x 0, y 0", "cube 3 0 0 0 -> 0\nkeep 0 1 0 -> 0\ntoss 0 -> 100");
        SHELVES.sentence("34: of PILOTS 100 more: in x 9, y 7", """
            cubes 0 0 9,0 9,1 9,2 9,3 9,4 9,5 9,6
            cube 3 9 7 0 -> 7
            keep 0 1 7 -> 0
            toss 0 -> 179
            """);
    }

    public static void main(String[] args) {
        keep();
        row();
        put();
        element();
        copy();
        sum();
        toss();
        SHELVES.end();
    }
}
