import java.util.ArrayList;
import java.util.List;

/** The boundary cases that DOC.md names of SHAPES, THE PLAN and rows that are JUDGED: promises 11 to 17. */
public final class ShapesBoundaryTest {
    private static final Boundaries SHAPES = new Boundaries("shapes");

    private static void fault() {
        SHAPES.sentence("11: -1: SHELVES are 0 .. 7", """
            fault -1 0 -> -1
            fault 8 0 -> -1
            fault min 0 -> -1
            fault max 1 -> -1
            text 0 b0000
            text 7 b0000
            fault 0 0 -> -4
            fault 7 0 -> -4
            """);
        SHAPES.sentence("11: -1: what is 0 or 1", """
            text 0 b0000
            fault 0 -1 -> -1
            fault 0 2 -> -1
            fault 0 min -> -1
            fault 0 max -> -1
            fault 0 0 -> -4
            fault 0 1 -> 0
            """);
        SHAPES.sentence("11: -1 ahead of -11 and of -12", """
            fault 0 2 -> -1
            row 0 1 3
            fault 0 2 -> -1
            fault 8 2 -> -1
            """);
        SHAPES.sentence("11: -11: nothing is held", "fault 0 0 -> -11\n fault 7 1 -> -11");
        SHAPES.sentence("11: -12: no ROW of bytes: shorts, ints, a CUBE", """
            cube 0 0 0 0 -> 0
            row 0 1 5
            row 1 2 5
            keep 2 1 0
            fault 0 0 -> -12
            fault 0 1 -> -12
            fault 1 0 -> -12
            fault 1 1 -> -12
            fault 2 0 -> -12
            fault 2 1 -> -12
            """);
        SHAPES.sentence("11: also of 0 shorts -12, of 0 bytes FAULT 0", """
            row 0 1 0
            fault 0 0 -> -12
            row 0 0 0
            fault 0 0 -> 0
            fault 0 1 -> 0
            """);
        SHAPES.sentence("11: bytes of 0, as they are at first, begin no SHAPE and no PROGRAM", """
            row 0 0 90
            fault 0 0 -> 0
            fault 0 1 -> 0
            """);
    }

    private static void faultsOfTexts() {
        SHAPES.sentence("a SHAPE has one PART at least: FAULT 0 of the empty text", "shapeFault -> 0\n shapeFault b0000 -> -4");
        SHAPES.sentence("( .. ) at most 6 deep", """
            shapeFault ((((((b0000)))))) -> -4
            shapeFault (((((((b0000))))))) -> 6
            """);
        SHAPES.sentence("( .. ) at most 6 deep, closed ones don't count", """
            shapeFault (b0000)+((b0000)+(((((b0000)))))+(b0000)) -> -4
            shapeFault ((((((b0000)+b0000)+b0000)+b0000)+b0000)+b0000)+((((((b0000)))))) -> -4
            """);
        SHAPES.sentence("( .. ) at most 6 deep, though closed ones are ahead", """
            shapeFault ((((((b0000)+(b0000)))))) -> -4
            shapeFault ((((((b0000)+((b0000) -> 14
            """);
        SHAPES.sentence("( .. ) at most 6 deep: ! is none of them", """
            shapeFault !(!(!(!(!(!(!b0000)))))) -> -4
            shapeFault !(!(!(!(!(!(!(b0000 -> 13
            shapeFault !!!!!!!!b0000 -> -4
            """);
        SHAPES.sentence("x is 0 .. 9", "shapeFault b0000 -> -4\n shapeFault b9090 -> -4\n shapeFault b/000 -> 1\n shapeFault b:0:0 -> 1");
        SHAPES.sentence("y is 0 .. 7", "shapeFault b0707 -> -4\n shapeFault b0808 -> 2\n shapeFault b0008 -> 4\n shapeFault b0909 -> 2");
        SHAPES.sentence("x1 is not below x0", "shapeFault b5050 -> -4\n shapeFault b5040 -> 3\n shapeFault b9090 -> -4\n shapeFault b9080 -> 3");
        SHAPES.sentence("y1 is not below y0", "shapeFault b0505 -> -4\n shapeFault b0504 -> 4\n shapeFault b0707 -> -4\n shapeFault b0706 -> 4");
        SHAPES.sentence("likewise of the border", """
            shapeFault o5757 -> -4
            shapeFault o5747 -> 3
            shapeFault o5756 -> 4
            shapeFault o5858 -> 2
            shapeFault o5758 -> 4
            """);
        SHAPES.sentence("FAULT of a ROW of 90 that ends too early is 90",
                "shapeFault " + "!".repeat(90) + " -> 90\n shape 7 -> -190");
        SHAPES.sentence("a ROW of 90 can be a SHAPE", """
            shapeFault b0000+b0000+b0000+b0000+b0000+b0000+b0000+b0000+b0000+b0000+b0000+b0000+b0000+b0000+b00000 -> 89
            put 7 89 41
            fault 7 0 -> 89
            shapeOf b0000+b0000+b0000+b0000+b0000+b0000+b0000+b0000+b0000+b0000+b0000+b0000+b0000+b0000+!b0000 -> 0
            met 0 0 -> 80
            """);
        SHAPES.sentence("every text that ends too early has its size for FAULT", tooEarly("b1234+(o0000-!b5567)&b9797", 5, 20, 26));
        SHAPES.sentence("every byte with which no SHAPE can go on has its place for FAULT", goesOn());
    }

    /** Every beginning of a SHAPE, but those of the sizes that are told. */
    private static List<String> tooEarly(String text, int... whole) {
        List<String> faults = new ArrayList<>();
        for (int n = 0; n <= text.length(); n++) {
            int due = n;
            for (int w : whole) {
                if (w == n) due = -4;
            }
            int got = Texts.fault(text.substring(0, n), 0);
            if (got != due) faults.add("\"" + text.substring(0, n) + "\" has FAULT " + got + ", due is " + due);
        }
        return faults;
    }

    private static List<String> goesOn() {
        List<String> faults = new ArrayList<>();
        String part = "bo!(";
        for (String ahead : new String[] {"", "!", "!!", "(", "((", "(((((", "b0000+", "o0000-", "b0000&", "(b0000)+", "((((((b0000)&", "!("}) {
            faults.addAll(Texts.goesOn(ahead, 0, part));
        }
        faults.addAll(Texts.goesOn("((((((", 0, "bo!"));
        faults.addAll(Texts.goesOn("((((((!", 0, "bo!"));
        faults.addAll(Texts.goesOn("((((((b0000+", 0, "bo!"));
        for (char box : "bo".toCharArray()) {
            faults.addAll(Texts.goesOn(box + "", 0, "0123456789"));
            faults.addAll(Texts.goesOn(box + "3", 0, "01234567"));
            faults.addAll(Texts.goesOn(box + "32", 0, "3456789"));
            faults.addAll(Texts.goesOn(box + "325", 0, "234567"));
            faults.addAll(Texts.goesOn(box + "00", 0, "0123456789"));
            faults.addAll(Texts.goesOn(box + "000", 0, "01234567"));
            faults.addAll(Texts.goesOn(box + "97", 0, "9"));
            faults.addAll(Texts.goesOn(box + "979", 0, "7"));
            faults.addAll(Texts.goesOn(box + "3255", 0, "+-&"));
            faults.addAll(Texts.goesOn("(" + box + "3255", 0, "+-&)"));
            faults.addAll(Texts.goesOn("!" + box + "3255", 0, "+-&"));
        }
        faults.addAll(Texts.goesOn("(b0000)", 0, "+-&"));
        faults.addAll(Texts.goesOn("((b0000)", 0, "+-&)"));
        faults.addAll(Texts.goesOn("((((((b0000))))))", 0, "+-&"));
        return faults;
    }

    private static void shape() {
        SHAPES.sentence("SHAPES are numbered from 0 on, 8 at most; -2: no room", """
            text 0 b0000
            shape 0 -> 0
            shape 0 -> 1
            shape 0 -> 2
            shape 0 -> 3
            shape 0 -> 4
            shape 0 -> 5
            shape 0 -> 6
            text 0 b0010
            shape 0 -> 7
            count 3 -> 8
            shape 0 -> -2
            count 3 -> 8
            met 7 0 -> 2
            met 8 0 -> -1
            """);
        SHAPES.sentence("12: -1, -2, -11, -12, -100 less a FAULT, in this order", """
            text 0 b0000
            row 1 1 3
            text 2 b0008
            shape 8 -> -1
            shape -1 -> -1
            shape 3 -> -11
            shape 1 -> -12
            shape 2 -> -104
            8 times shape 0
            shape 8 -> -1
            shape -1 -> -1
            shape min -> -1
            shape max -> -1
            shape 3 -> -2
            shape 1 -> -2
            shape 2 -> -2
            shape 0 -> -2
            """);
        SHAPES.sentence("12: -12: ints, a CUBE", """
            cube 0 0 0 0 -> 0
            row 0 2 3
            shape 0 -> -12
            keep 0 1 0
            shape 0 -> -12
            """);
        SHAPES.sentence("12: -100 less a FAULT: from 0 on", """
            shapeOf -> -100
            shapeOf x -> -100
            shapeOf b -> -101
            shapeOf b0000+ -> -106
            shapeOf b0000 -> 0
            count 3 -> 1
            """);
        SHAPES.sentence("12: it is the text as then: what is put in later doesn't matter", """
            shapeOf b0000 -> 0
            put 7 3 57
            met 0 0 -> 1
            row 7 2 4
            met 0 0 -> 1
            shape 7 -> -12
            """);
        SHAPES.sentence("26: as many as then: there is room again", """
            text 0 b0000
            7 times shape 0
            image -> 0
            text 1 b0010
            shape 1 -> 7
            shape 1 -> -2
            restore -> 0
            met 7 0 -> -1
            text 1 b0020
            shape 1 -> 7
            met 7 0 -> 3
            """);
    }

    private static void in() {
        SHAPES.sentence("13: -1: no such SHAPE", """
            in 0 0 0 -> -1
            shapeOf b0097 -> 0
            shapeOf b0097 -> 1
            in 0 0 0 -> 1
            in 1 0 0 -> 1
            in 2 0 0 -> -1
            in -1 0 0 -> -1
            in min 0 0 -> -1
            in max 0 0 -> -1
            """);
        SHAPES.sentence("13: -1: no such CELL", """
            shapeOf b0097 -> 0
            in 0 0 0 -> 1
            in 0 9 0 -> 1
            in 0 0 7 -> 1
            in 0 9 7 -> 1
            in 0 -1 0 -> -1
            in 0 10 0 -> -1
            in 0 0 -1 -> -1
            in 0 0 8 -> -1
            in 0 min 0 -> -1
            in 0 max 0 -> -1
            in 0 0 min -> -1
            in 0 0 max -> -1
            """);
        SHAPES.sentence("a box: all CELLS from x0 to x1, from y0 to y1", """
            shapeOf b3456 -> 0
            met 0 0 -> 9
            in 0 3 4 -> 1
            in 0 5 6 -> 1
            in 0 3 6 -> 1
            in 0 5 4 -> 1
            in 0 4 5 -> 1
            in 0 2 4 -> 0
            in 0 6 4 -> 0
            in 0 3 3 -> 0
            in 0 3 7 -> 0
            """);
        SHAPES.sentence("a box of one CELL", "shapeOf b9797 -> 0\n met 0 0 -> 1\n in 0 9 7 -> 1\n in 0 8 7 -> 0\n in 0 9 6 -> 0");
        SHAPES.sentence("the border of that box alone", """
            shapeOf o3456 -> 0
            met 0 0 -> 8
            in 0 3 4 -> 1
            in 0 5 6 -> 1
            in 0 4 4 -> 1
            in 0 4 6 -> 1
            in 0 3 5 -> 1
            in 0 5 5 -> 1
            in 0 4 5 -> 0
            in 0 2 5 -> 0
            in 0 6 5 -> 0
            """);
        SHAPES.sentence("a border without anything within: boxes of 1, of 2 wide, of 2 high", """
            shapeOf o5555 -> 0
            met 0 0 -> 1
            shapeOf o5067 -> 1
            met 1 0 -> 16
            shapeOf o0091 -> 2
            met 2 0 -> 20
            shapeOf o0090 -> 3
            met 3 0 -> 10
            shapeOf o4047 -> 4
            met 4 0 -> 8
            shapeOf o0097 -> 5
            met 5 0 -> 32
            """);
        manyParts();
    }

    private static void manyParts() {
        SHAPES.sentence("+ or, - but not, & both, from the left", """
            shapeOf b0020+b2040 -> 0
            met 0 0 -> 5
            shapeOf b0020-b2040 -> 1
            met 1 0 -> 2
            shapeOf b0020&b2040 -> 2
            met 2 0 -> 1
            shapeOf b0020-b0010+b0000 -> 3
            met 3 0 -> 2
            shapeOf b0020+b5050&b0010 -> 4
            met 4 0 -> 2
            shapeOf b0020-(b0010+b0000) -> 5
            met 5 0 -> 1
            shapeOf b0020+(b5050&b0010) -> 6
            met 6 0 -> 3
            """);
        SHAPES.sentence("! is of its PART alone: all CELLS that aren't in it", """
            shapeOf !b0000 -> 0
            met 0 0 -> 79
            in 0 0 0 -> 0
            in 0 9 7 -> 1
            shapeOf !b0000&b0010 -> 1
            met 1 0 -> 1
            shapeOf !!b0000 -> 2
            met 2 0 -> 1
            shapeOf !(b0000+b1010) -> 3
            met 3 0 -> 78
            shapeOf !b0000+b0000 -> 4
            met 4 0 -> 80
            shapeOf b0000-!b0000 -> 5
            met 5 0 -> 1
            """);
        SHAPES.sentence("all CELLS, and none: 80 and 0", """
            shapeOf b0097 -> 0
            met 0 0 -> 80
            shapeOf !b0097 -> 1
            met 1 0 -> 0
            in 1 0 0 -> 0
            in 1 9 7 -> 0
            shapeOf b0000-b0000 -> 2
            met 2 0 -> 0
            """);
        SHAPES.sentence("rows 3 and 4, columns 4 and 5 alike: nothing is cut in the middle", """
            shapeOf b4355 -> 0
            met 0 0 -> 6
            in 0 4 3 -> 1
            in 0 5 4 -> 1
            in 0 5 5 -> 1
            in 0 4 2 -> 0
            in 0 4 6 -> 0
            shapeOf !b4355 -> 1
            met 1 0 -> 74
            """);
    }

    private static void met() {
        SHAPES.sentence("14: -1: no such SHAPE, what is 0 .. 3", """
            met 0 0 -> -1
            shapeOf b0000 -> 0
            met -1 0 -> -1
            met 1 0 -> -1
            met min 0 -> -1
            met max 0 -> -1
            met 0 -1 -> -1
            met 0 4 -> -1
            met 0 min -> -1
            met 0 max -> -1
            met 0 0 -> 1
            met 0 3 -> 0
            """);
        SHAPES.sentence("MET: CUBES are in all its CELLS, and in no others", """
            cubes 0 0 4,0 5,0 5,1
            shapeOf b4050+b5151 -> 0
            met 0 0 -> 3
            met 0 1 -> 0
            met 0 2 -> 0
            met 0 3 -> 1
            shapeOf b4051 -> 1
            met 1 1 -> 1
            met 1 2 -> 0
            met 1 3 -> 0
            shapeOf b4050 -> 2
            met 2 1 -> 0
            met 2 2 -> 1
            met 2 3 -> 0
            shapeOf b4050+b4141 -> 3
            met 3 1 -> 1
            met 3 2 -> 1
            met 3 3 -> 0
            """);
        SHAPES.sentence("MET: a SHAPE without CELLS by no CUBES", """
            shapeOf !b0097 -> 0
            met 0 0 -> 0
            met 0 1 -> 0
            met 0 2 -> 0
            met 0 3 -> 1
            cube 0 0 0 0 -> 0
            met 0 2 -> 1
            met 0 3 -> 0
            """);
        SHAPES.sentence("MET: all CELLS by no 16 CUBES", """
            shapeOf b0097 -> 0
            met 0 1 -> 80
            met 0 3 -> 0
            cubes 0 0 0,0 1,0 2,0 3,0 4,0 5,0 6,0 7,0 8,0 9,0 0,1 1,1 2,1 3,1 4,1 5,1
            met 0 1 -> 64
            met 0 2 -> 0
            met 0 3 -> 0
            shapeOf b0090+b0151 -> 1
            met 1 3 -> 1
            shapeOf b0090+b0141 -> 2
            met 2 2 -> 1
            met 2 3 -> 0
            shapeOf b0090+b0161 -> 3
            met 3 1 -> 1
            met 3 3 -> 0
            """);
        SHAPES.sentence("MET: DEAD ones count as CUBES", """
            cube 0 0 0 0 -> 0
            shapeOf b0000 -> 0
            dead 0 true -> 1
            met 0 3 -> 1
            """);
    }

    private static void plan() {
        SHAPES.sentence("15: -1: n is 0 .. 4, no such SHAPE", """
            plan 0 0 -> -1
            cube 2 0 0 9 -> 0
            shapeOf b0000 -> 0
            plan 0 -1 -> -1
            plan 0 5 -> -1
            plan 0 min -> -1
            plan 0 max -> -1
            plan -1 0 -> -1
            plan 1 0 -> -1
            plan min 0 -> -1
            plan max 0 -> -1
            plan 0 0 -> 0
            plan 0 4 -> 0
            """);
        SHAPES.sentence("THE PLAN in n MOVES at most: 0", """
            cube 2 0 0 9 -> 0
            shapeOf b0000 -> 0
            shapeOf b1010 -> 1
            plan 0 0 -> 0
            planned 0 0 0 -> -4
            plan 1 0 -> -4
            planned 1 0 0 -> -4
            """);
        SHAPES.sentence("THE PLAN in n MOVES at most: as many as are wanted, one fewer", """
            cube 2 0 0 9 -> 0
            shapeOf b1010 -> 0
            shapeOf b2020 -> 1
            shapeOf b3030 -> 2
            shapeOf b4040 -> 3
            plan 0 1 -> 1
            plan 1 1 -> -4
            plan 1 2 -> 2
            plan 2 2 -> -4
            plan 2 3 -> 3
            plan 3 3 -> -4
            plan 3 4 -> 4
            plan 0 4 -> 1
            """);
        SHAPES.sentence("THE PLAN in n MOVES at most: 5 are too many", """
            cube 2 0 0 9 -> 0
            shapeOf b5050 -> 0
            plan 0 4 -> -4
            planned 0 4 0 -> -4
            move 0 -> 8
            plan 0 4 -> 4
            """);
        SHAPES.sentence("THE PLAN: each MOVE CAN be behind those ahead of it: POWER for all of them", """
            cube 2 0 0 4 -> 0
            shapeOf b4040 -> 0
            plan 0 4 -> 4
            charge 0 3 -> 4
            plan 0 4 -> -4
            dead 0 true -> 1
            charge 0 9 -> 3
            plan 0 4 -> -4
            """);
        SHAPES.sentence("THE PLAN: to x 0", "cube 2 1 0 9 -> 0\nshapeOf b0000 -> 0\nplan 0 4 -> 1\nplanned 0 4 0 -> 2");
        SHAPES.sentence("THE PLAN: to x 9", "cube 2 8 0 9 -> 0\nshapeOf b9090 -> 0\nplan 0 4 -> 1\nplanned 0 4 0 -> 0");
        SHAPES.sentence("THE PLAN: up to y 7, and down to y 0", """
            cubes 2 9 1,0 1,1 1,2 1,3 1,4 0,4 1,5 1,6 1,7
            shapeOf b1017+b0707 -> 0
            shapeOf b1017+b0000 -> 1
            plan 0 4 -> 3
            planned 0 4 0 -> 41
            planned 0 4 2 -> 41
            plan 1 3 -> -4
            plan 1 4 -> 4
            planned 1 4 0 -> 43
            planned 1 4 3 -> 43
            """);
        SHAPES.sentence("THE PLAN: to the last of 8 SHAPES", """
            cube 2 0 0 9 -> 0
            text 0 b0000
            7 times shape 0
            text 0 b2020
            shape 0 -> 7
            plan 7 4 -> 2
            planned 7 4 1 -> 0
            plan 6 4 -> 0
            plan 8 4 -> -1
            """);
        SHAPES.sentence("THE PLAN: nothing moves by it", """
            cubes 2 9 0,0 1,0
            shapeOf b1010+b2121 -> 0
            plan 0 4 -> -4
            shapeOf b1011 -> 1
            plan 1 4 -> 1
            at 0 0 -> 0
            at 1 1 -> -4
            about 0 3 -> 9
            plan 1 4 -> 1
            """);
        SHAPES.sentence("THE PLAN: to as many CELLS as there are CUBES alone", """
            cubes 2 9 0,0 1,0
            shapeOf b1010 -> 0
            shapeOf b0020 -> 1
            shapeOf !b0097 -> 2
            plan 0 4 -> -4
            plan 1 4 -> -4
            plan 2 4 -> -4
            """);
        SHAPES.sentence("THE PLAN: without CUBES to a SHAPE without CELLS: no MOVES", """
            shapeOf !b0097 -> 0
            shapeOf b0000 -> 1
            plan 0 0 -> 0
            plan 0 4 -> 0
            planned 0 4 0 -> -4
            plan 1 4 -> -4
            """);
        whichCubesAndMoves();
    }

    private static void whichCubesAndMoves() {
        SHAPES.sentence("THE PLAN: of MOVES of CUBES 0 .. 7: of 7", """
            cubes 2 9 1,0 2,0 3,0 4,0 5,0 6,0 7,0 8,0 0,0
            shapeOf b0070+b7171 -> 0
            plan 0 1 -> 1
            planned 0 1 0 -> 61
            """);
        SHAPES.sentence("THE PLAN: of MOVES of CUBES 0 .. 7: not of 8", """
            cubes 2 9 1,0 2,0 3,0 4,0 5,0 6,0 7,0 8,0 0,0
            shapeOf b1080+b1111 -> 0
            can 68 -> 1
            plan 0 1 -> -4
            plan 0 2 -> -4
            shorts 0 68
            judge 0 -> -4
            move 68 -> 8
            plan 0 0 -> 0
            """);
        SHAPES.sentence("THE PLAN: of several the least, by the first MOVE's number", """
            cubes 2 9 0,0 1,0 2,0 3,0
            shapeOf b1020+b1121 -> 0
            plan 0 4 -> 2
            planned 0 4 0 -> 4
            planned 0 4 1 -> 29
            planned 0 4 2 -> -4
            """);
        SHAPES.sentence("THE PLAN: of several the least: the other CUBE came first", """
            cubes 2 9 3,0 2,0 1,0 0,0
            shapeOf b1020+b1121 -> 0
            plan 0 4 -> 2
            planned 0 4 0 -> 5
            planned 0 4 1 -> 28
            """);
        SHAPES.sentence("THE PLAN: of several the least, then by the next one's", """
            cubes 2 9 1,0 0,0 2,0 3,0 4,0
            shapeOf b1030+b2131 -> 0
            plan 0 2 -> -4
            plan 0 4 -> 3
            planned 0 4 0 -> 12
            planned 0 4 1 -> 8
            planned 0 4 2 -> 37
            planned 0 3 2 -> 37
            """);
        SHAPES.sentence("THE PLAN: the fewest MOVES, though others have lower numbers", """
            cubes 2 9 1,0 2,0 0,0
            shapeOf b1021-b2121 -> 0
            plan 0 4 -> 1
            planned 0 4 0 -> 20
            """);
    }

    private static void planned() {
        SHAPES.sentence("16: MOVE i, from 0; -4: not so many", """
            cube 2 0 0 9 -> 0
            shapeOf b4040 -> 0
            planned 0 4 0 -> 0
            planned 0 4 3 -> 0
            planned 0 4 4 -> -4
            planned 0 4 5 -> -4
            planned 0 4 max -> -4
            planned 0 3 0 -> -4
            """);
        SHAPES.sentence("16: -1: i below 0 (NOTES.md)", """
            cube 2 0 0 9 -> 0
            shapeOf b1010 -> 0
            planned 0 1 -1 -> -1
            planned 0 1 min -> -1
            """);
        SHAPES.sentence("16: -1: n is 0 .. 4, no such SHAPE", """
            planned 0 4 0 -> -1
            cube 2 0 0 9 -> 0
            shapeOf b1010 -> 0
            planned 0 -1 0 -> -1
            planned 0 5 0 -> -1
            planned 0 min 0 -> -1
            planned 0 max 0 -> -1
            planned -1 4 0 -> -1
            planned 1 4 0 -> -1
            planned min 4 0 -> -1
            planned max 4 0 -> -1
            planned 0 0 0 -> -4
            planned 0 4 0 -> 0
            """);
        SHAPES.sentence("16: each n has a PLAN of its own", """
            cube 2 0 0 9 -> 0
            shapeOf b2020 -> 0
            shapeOf b0000 -> 1
            planned 0 4 1 -> 0
            planned 0 1 0 -> -4
            planned 1 4 0 -> -4
            planned 0 2 1 -> 0
            """);
    }

    private static void judge() {
        SHAPES.sentence("17: -1, -11, -12", """
            cube 2 0 0 9 -> 0
            judge -1 -> -1
            judge 8 -> -1
            judge min -> -1
            judge max -> -1
            judge 0 -> -11
            judge 7 -> -11
            row 0 0 1
            judge 0 -> -12
            row 0 2 1
            judge 0 -> -12
            row 0 2 0
            judge 0 -> -12
            keep 0 1 0
            judge 0 -> -12
            row 0 1 1
            judge 0 -> -4
            """);
        SHAPES.sentence("JUDGED: a ROW without elements: all CAN", "row 0 1 0\n judge 0 -> -4");
        SHAPES.sentence("JUDGED: the place of the first that CAN'T be", """
            cube 2 7 0 9 -> 0
            shorts 0 0 0 0 2 0
            judge 0 -> 2
            put 0 0 1
            judge 0 -> 0
            put 0 0 2
            judge 0 -> -4
            put 0 4 4
            judge 0 -> 4
            """);
        SHAPES.sentence("JUDGED: what is no MOVE can't be", """
            cubes 2 9 0,0 1,0
            shorts 0 4 16
            judge 0 -> 1
            put 0 1 -1
            judge 0 -> 1
            put 0 1 32767
            judge 0 -> 1
            put 0 1 -32768
            judge 0 -> 1
            put 0 0 -1
            judge 0 -> 0
            put 0 0 128
            judge 0 -> 0
            """);
        SHAPES.sentence("JUDGED: elements keep their lowest bits alone: 65540 is MOVE 4", """
            cubes 2 9 0,0 1,0
            shorts 0 65540
            judge 0 -> -4
            put 0 0 65536
            judge 0 -> 0
            """);
        SHAPES.sentence("JUDGED: POWER for all of them, from what is now; nothing moves", """
            cube 0 0 0 9 -> 0
            shorts 0 0 0 0 0
            judge 0 -> 3
            at 0 0 -> 0
            about 0 3 -> 9
            move 0 -> 6
            judge 0 -> 2
            charge 0 12 -> 6
            judge 0 -> -4
            """);
        SHAPES.sentence("JUDGED: of any CUBE, the last of 16 too", """
            cubes 0 0 0,0 1,0 2,0 3,0 4,0 5,0 6,0 7,0 8,0 9,0 0,1 1,1 2,1 3,1 4,1
            cube 0 5 1 3 -> 15
            shorts 0 120
            judge 0 -> -4
            put 0 0 128
            judge 0 -> 0
            """);
        SHAPES.sentence("JUDGED: a MOVE that CAN be but behind another", """
            cubes 2 9 0,0 1,0 2,0
            can 0 -> 0
            shorts 0 0 4
            judge 0 -> 0
            shorts 0 4 0
            judge 0 -> -4
            shorts 0 4 4
            judge 0 -> 1
            """);
        SHAPES.sentence("JUDGED: all 90 MOVES", manyMoves());
    }

    /** A MOTOR goes to and fro 90 times: with POWER for all, and for all but the last. */
    private static List<String> manyMoves() {
        List<String> faults = new ArrayList<>();
        for (int power = 88; power <= 91; power++) {
            CubeFolk folk = new CubeFolk();
            folk.cube(2, 0, 0, power);
            folk.row(0, 1, 90);
            for (int i = 0; i < 90; i++) {
                folk.put(0, i, i % 2 == 0 ? 0 : 2);
            }
            int due = power < 90 ? power : -4;
            int got = folk.judge(0);
            if (got != due) faults.add("with POWER " + power + " " + got + ", due is " + due);
        }
        return faults;
    }

    public static void main(String[] args) {
        fault();
        faultsOfTexts();
        shape();
        in();
        met();
        plan();
        planned();
        judge();
        SHAPES.end();
    }
}
