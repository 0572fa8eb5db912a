import java.util.ArrayList;
import java.util.List;

/** The boundary cases that DOC.md names of CUBES, MOVES and LOADS: promises 1 to 10. */
public final class CubesBoundaryTest {
    private static final Boundaries CUBES = new Boundaries("cubes");

    private static void aNewObject() {
        CUBES.sentence("1: no CUBES, TICKS 0", """
            counts -> 0 0 0 0 0 0 0 0 0
            moves -> 0
            broken -> 0
            at 0 0 -> -4
            at 9 7 -> -4
            about 0 0 -> -1
            can 0 -> -1
            move 0 -> -1
            charge 0 0 -> -1
            dead 0 true -> -1
            rule 0 -> -1
            gives 0 -1 -> -1
            in 0 0 0 -> -1
            met 0 0 -> -1
            plan 0 0 -> -1
            report 0 0 true -> -1
            believed 0 0 -1 -> -1
            wrong 0 -1 -> -1
            keep 0 1 0 -> -1
            """);
        CUBES.sentence("SHELVES 0 .. 7 each hold nothing at first", """
            sum 0 -> -11
            sum 1 -> -11
            toss 2 -> -11
            judge 3 -> -11
            fault 4 0 -> -11
            shape 5 -> -11
            program 6 -> -11
            put 7 0 0 -> -11
            sum 7 -> -11
            """);
        CUBES.sentence("26: there is no IMAGE at first", "restore -> -3");
        CUBES.sentence("an object is used for 512 calls: the last is answered as the first", allCalls());
    }

    /** As many calls as are promised: some that make an IMAGE, some that throw, and the last that asks. */
    private static List<String> allCalls() {
        List<String> faults = new ArrayList<>();
        CubeFolk folk = new CubeFolk();
        folk.cube(3, 0, 0, 9);
        folk.keep(0, 1, 0);
        for (int k = 0; k < 127; k++) {
            if (folk.image() != k) faults.add("image " + k);
            if (folk.ticks(1) != 0) faults.add("ticks " + k);
            if (folk.toss(0) != 100) faults.add("toss " + k);
            if (folk.charge(0, k) != (k == 0 ? 9 : k - 1)) faults.add("charge " + k);
        }
        if (folk.restore() != 126) faults.add("restore, call 511");
        if (folk.count(6) != 126) faults.add("count, call 512");
        return faults;
    }

    private static void cubes() {
        CUBES.sentence("KINDS are 0 .. 3", """
            cube -1 0 0 0 -> -1
            cube 4 0 0 0 -> -1
            cube min 0 0 0 -> -1
            cube max 0 0 0 -> -1
            cube 0 0 0 0 -> 0
            cube 1 1 0 0 -> 1
            cube 2 2 0 0 -> 2
            cube 3 3 0 0 -> 3
            cube 4 4 0 0 -> -1
            cube -1 4 0 0 -> -1
            about 0 0 -> 0
            about 3 0 -> 3
            """);
        CUBES.sentence("CELLS begin with x 0", """
            cube 0 -1 0 0 -> -1
            cube 0 min 0 0 -> -1
            cube 0 0 0 0 -> 0
            cube 0 -1 0 0 -> -1
            about 0 1 -> 0
            """);
        CUBES.sentence("CELLS end with x 9", """
            cube 0 10 0 0 -> -1
            cube 0 max 0 0 -> -1
            cube 0 9 0 0 -> 0
            cube 0 10 0 0 -> -1
            about 0 1 -> 9
            """);
        CUBES.sentence("CELLS begin with y 0", """
            cube 0 4 -1 0 -> -1
            cube 0 4 min 0 -> -1
            cube 0 4 0 0 -> 0
            cube 0 4 -1 0 -> -1
            about 0 2 -> 0
            """);
        CUBES.sentence("CELLS end with y 7", """
            cubes 0 0 4,0 4,1 4,2 4,3 4,4 4,5 4,6
            cube 0 4 8 0 -> -1
            cube 0 4 7 0 -> 7
            cube 0 4 8 0 -> -1
            cube 0 4 max 0 -> -1
            about 7 2 -> 7
            """);
        CUBES.sentence("POWER is 0 .. 999", """
            cube 0 0 0 -1 -> -1
            cube 0 0 0 1000 -> -1
            cube 0 0 0 min -> -1
            cube 0 0 0 max -> -1
            cube 0 0 0 0 -> 0
            cube 0 1 0 999 -> 1
            about 0 3 -> 0
            about 1 3 -> 999
            """);
        CUBES.sentence("CUBES are 0 .. 15 as they come; -2: no room", """
            cubes 0 0 0,0 1,0 2,0 3,0 4,0 5,0 6,0 7,0 8,0 9,0 0,1 1,1 2,1 3,1 4,1
            cube 3 5 1 7 -> 15
            cube 3 6 1 7 -> -2
            about 15 0 -> 3
            about 16 0 -> -1
            at 6 1 -> -4
            counts -> 16 0 7 0 0 0 0 36 0
            """);
        refusalsOfCubes();
        wholeCubes();
        comesAsNew();
    }

    private static void refusalsOfCubes() {
        CUBES.sentence("2: of several refusals the first: -1, then -2, then -3", """
            cubes 0 0 0,0 1,0 2,0 3,0 4,0 5,0 6,0 7,0 8,0 9,0 0,1 1,1 2,1 3,1 4,1 5,1
            cube 4 6 1 0 -> -1
            cube 0 10 0 0 -> -1
            cube 0 0 8 0 -> -1
            cube 0 6 1 1000 -> -1
            cube 4 0 0 0 -> -1
            cube 0 0 0 0 -> -2
            cube 0 9 7 0 -> -2
            cube 0 6 1 0 -> -2
            """);
        CUBES.sentence("2: -1 also where the CELL is taken or parted", """
            cube 1 0 0 5 -> 0
            cube 4 0 0 5 -> -1
            cube 0 0 0 1000 -> -1
            cube -1 7 7 5 -> -1
            cube 0 7 7 -1 -> -1
            """);
        CUBES.sentence("2: -3: the CELL is taken (each in a CELL of its own)", """
            cube 1 0 0 5 -> 0
            cube 0 0 0 9 -> -3
            cube 0 0 1 9 -> 1
            cube 0 0 1 9 -> -3
            cube 0 0 0 9 -> -3
            at 0 0 -> 0
            about 0 3 -> 5
            about 1 0 -> 0
            """);
    }

    private static void wholeCubes() {
        CUBES.sentence("WHOLE: one at least is at y 0", """
            cube 0 0 1 0 -> -3
            cube 0 9 7 0 -> -3
            cube 0 5 2 0 -> -3
            cube 0 5 0 0 -> 0
            """);
        CUBES.sentence("WHOLE: all of it hang together", """
            cube 0 4 0 0 -> 0
            cube 0 2 0 0 -> -3
            cube 0 6 0 0 -> -3
            cube 0 4 2 0 -> -3
            cube 0 0 7 0 -> -3
            cube 0 3 0 0 -> 1
            cube 0 2 0 0 -> 2
            """);
        CUBES.sentence("CUBES are BESIDE one another by sides: not by corners", """
            cubes 0 0 4,0 4,1
            cube 0 3 2 0 -> -3
            cube 0 5 2 0 -> -3
            cube 0 4 2 0 -> 2
            """);
        CUBES.sentence("BESIDE: not by the corner to the north and east", "cubes 0 0 5,0 5,1 4,1\n cube 0 3 0 0 -> -3");
        CUBES.sentence("BESIDE: not by the corner to the north and west", "cubes 0 0 5,0 5,1 6,1\n cube 0 7 0 0 -> -3");
        CUBES.sentence("BESIDE: not by the corner to the south and east", "cube 0 5 0 0 -> 0\n cube 0 4 1 0 -> -3");
        CUBES.sentence("BESIDE: not by the corner to the south and west", "cube 0 5 0 0 -> 0\n cube 0 6 1 0 -> -3");
        CUBES.sentence("BESIDE: one that has but a CUBE to its west", "cubes 0 0 4,0 4,1\n cube 0 5 1 0 -> 2");
        CUBES.sentence("BESIDE: one that has but a CUBE to its east", "cubes 0 0 4,0 4,1\n cube 0 3 1 0 -> 2");
        CUBES.sentence("BESIDE: one that has but a CUBE to its south", "cube 0 4 0 0 -> 0\n cube 0 4 1 0 -> 1");
        CUBES.sentence("BESIDE: one that has but a CUBE to its north",
                "cubes 0 0 4,0 4,1 4,2 5,2 6,2\n cube 0 6 1 0 -> 5\n cube 0 6 0 0 -> 6");
        CUBES.sentence("BESIDE: the last of a row and the first of the next aren't", """
            cubes 0 0 9,0 9,1
            cube 0 0 1 0 -> -3
            cube 0 0 2 0 -> -3
            cube 0 0 0 0 -> -3
            """);
        CUBES.sentence("BESIDE: the first of a row and the last of the one before aren't", """
            cubes 0 0 0,0 0,1
            cube 0 9 0 0 -> -3
            cube 0 9 1 0 -> -3
            """);
        CUBES.sentence("BESIDE: the lowest of a column and the highest aren't", """
            cube 0 4 0 0 -> 0
            cube 0 4 7 0 -> -3
            cube 0 5 7 0 -> -3
            cube 0 3 7 0 -> -3
            """);
    }

    private static void comesAsNew() {
        CUBES.sentence("2: a CUBE is well, has no PROGRAM, MEMORY 0, said nothing, bears nothing", """
            cube 3 0 0 7 -> 0
            abouts 0 -> 3 0 0 7 0 0 0 0 0 -4 0
            """);
        CUBES.sentence("26: what was not in THE IMAGE is not there, and comes as new", """
            cube 0 0 0 9 -> 0
            programOf 1=1?=7; -> 0
            programOf 1=1?y5; -> 1
            image -> 0
            cube 1 1 0 9 -> 1
            gives 1 0 -> -4
            ticks 1 -> 0
            gives 1 1 -> 0
            ticks 1 -> 0
            dead 1 true -> 1
            abouts 1 -> 1 1 0 9 1 0 0 7 5 1 0
            restore -> 0
            about 1 0 -> -1
            at 1 0 -> -4
            cube 2 1 0 4 -> 1
            abouts 1 -> 2 1 0 4 0 0 0 0 0 -4 0
            ticks 1 -> 0
            about 1 8 -> 0
            """);
    }

    private static void about() {
        CUBES.sentence("3: -1: what is 0 .. 10", """
            cube 0 0 0 5 -> 0
            about 0 -1 -> -1
            about 0 11 -> -1
            about 0 min -> -1
            about 0 max -> -1
            about 0 0 -> 0
            about 0 10 -> 0
            """);
        CUBES.sentence("3: -1: a CUBE that isn't there", """
            about 0 0 -> -1
            cubes 2 5 0,0 1,0
            about -1 0 -> -1
            about 2 0 -> -1
            about min 0 -> -1
            about max 0 -> -1
            about 16 11 -> -1
            about 1 0 -> 2
            """);
        CUBES.sentence("3: of 16 CUBES the last is 15", """
            cubes 0 0 0,0 1,0 2,0 3,0 4,0 5,0 6,0 7,0 8,0 9,0 0,1 1,1 2,1 3,1 4,1 5,1
            abouts 15 -> 0 5 1 0 0 0 0 0 0 -4 0
            about 16 0 -> -1
            """);
        CUBES.sentence("10: HANGS: one at y 0 doesn't", "cube 0 0 0 0 -> 0\n about 0 10 -> 0");
        CUBES.sentence("10: HANGS: one with a CUBE right below doesn't, one without does", """
            cubes 0 0 3,0 3,1 4,1 4,2
            about 1 10 -> 0
            about 2 10 -> 1
            about 3 10 -> 0
            move 28 -> -3
            """);
    }

    private static void at() {
        CUBES.sentence("4: x is 0 .. 9, y is 0 .. 7", """
            at -1 0 -> -1
            at 10 0 -> -1
            at 0 -1 -> -1
            at 0 8 -> -1
            at min 0 -> -1
            at max 0 -> -1
            at 0 min -> -1
            at 0 max -> -1
            at 0 0 -> -4
            at 9 0 -> -4
            at 0 7 -> -4
            at 9 7 -> -4
            """);
        CUBES.sentence("4: the CUBE in a CELL, in the corners too; -4 without one", """
            cubes 0 0 0,0 1,0 0,1 0,2 0,3 0,4 0,5 0,6 0,7
            at 0 0 -> 0
            at 0 7 -> 8
            at 1 7 -> -4
            at 9 6 -> -4
            at 9 0 -> -4
            """);
        CUBES.sentence("4: the last of 16 in the corner of x 9 and y 7", """
            cubes 0 0 8,0 8,1 8,2 8,3 8,4 8,5 8,6 8,7 9,0 9,1 9,2 9,3 9,4 9,5 9,6 9,7
            at 9 7 -> 15
            at 9 0 -> 8
            at 0 1 -> -4
            at 0 0 -> -4
            """);
        CUBES.sentence("4: -4 where a CUBE was, and there the CUBE where it came", """
            cube 2 0 0 5 -> 0
            move 0 -> 4
            at 0 0 -> -4
            at 1 0 -> 0
            """);
    }

    private static void dead() {
        CUBES.sentence("5: 1 if it was otherwise, else 0", """
            cube 0 0 0 0 -> 0
            dead 0 false -> 0
            dead 0 true -> 1
            dead 0 true -> 0
            dead 0 false -> 1
            dead 0 false -> 0
            count 8 -> 2
            """);
        CUBES.sentence("5: -1: a CUBE that isn't there", """
            dead 0 true -> -1
            cube 0 0 0 0 -> 0
            dead -1 true -> -1
            dead 1 true -> -1
            dead 1 false -> -1
            dead min true -> -1
            dead max true -> -1
            count 1 -> 0
            """);
        CUBES.sentence("5: 40 changes are kept, -2 beyond; what is no change is 0", """
            cubes 0 0 0,0 1,0
            19 times dead 0 true / dead 0 false
            dead 1 true -> 1
            count 8 -> 39
            dead 0 true -> 1
            count 8 -> 40
            dead 0 false -> -2
            dead 1 false -> -2
            about 0 4 -> 1
            about 1 4 -> 1
            dead 0 true -> 0
            dead 1 true -> 0
            count 8 -> 40
            """);
        CUBES.sentence("5: -1 ahead of -2", """
            cube 0 0 0 0 -> 0
            20 times dead 0 true / dead 0 false
            dead 1 true -> -1
            dead -1 true -> -1
            dead 0 true -> -2
            """);
        CUBES.sentence("26: THE LOG is as it was: there is room again", """
            cube 0 0 0 0 -> 0
            19 times dead 0 true / dead 0 false
            dead 0 true -> 1
            image -> 0
            dead 0 false -> 1
            dead 0 true -> -2
            restore -> 0
            count 8 -> 39
            about 0 4 -> 1
            dead 0 true -> 0
            dead 0 false -> 1
            dead 0 true -> -2
            """);
        whatDeadOnesDo();
    }

    private static void whatDeadOnesDo() {
        CUBES.sentence("DEAD: it doesn't move, well again it does", """
            cube 2 4 0 9 -> 0
            ways 0 -> 1 0 1 0 0 0 0 0
            dead 0 true -> 1
            ways 0 -> 0 0 0 0 0 0 0 0
            move 0 -> -3
            moves -> 0
            dead 0 false -> 1
            move 0 -> 8
            """);
        CUBES.sentence("DEAD: it holds all the same: what hangs together by it is WHOLE", """
            cubes 0 9 0,0 0,1
            dead 0 true -> 1
            dead 1 true -> 1
            cube 0 0 2 9 -> 2
            cube 0 1 0 9 -> 3
            """);
        CUBES.sentence("DEAD: it holds all the same: others slide along it and turn about it", """
            cubes 2 9 1,0 1,1 0,0
            dead 0 true -> 1
            dead 1 true -> 1
            can 17 -> 1
            cube 2 2 1 9 -> 3
            can 29 -> 1
            """);
        CUBES.sentence("DEAD: it holds all the same: it bears, is BROKEN, and gives LOAD on", """
            cubes 0 0 0,0 0,1 0,2 0,3 0,4
            dead 0 true -> 1
            dead 2 true -> 1
            loads -> 8 6 4 2 0
            about 0 6 -> 1
            about 1 6 -> 0
            broken -> 1
            count 7 -> 10
            """);
        CUBES.sentence("DEAD: its POWER may be charged all the same, and counts", """
            cube 0 0 0 7 -> 0
            dead 0 true -> 1
            charge 0 9 -> 7
            count 2 -> 9
            """);
    }

    private static void charge() {
        CUBES.sentence("6: POWER is 0 .. 999", """
            cube 0 0 0 5 -> 0
            charge 0 -1 -> -1
            charge 0 1000 -> -1
            charge 0 min -> -1
            charge 0 max -> -1
            about 0 3 -> 5
            charge 0 0 -> 5
            charge 0 999 -> 0
            charge 0 999 -> 999
            about 0 3 -> 999
            """);
        CUBES.sentence("6: -1: a CUBE that isn't there", """
            charge 0 0 -> -1
            cubes 0 5 0,0 1,0
            charge -1 0 -> -1
            charge 2 0 -> -1
            charge min 0 -> -1
            charge max 0 -> -1
            charge 1 6 -> 5
            count 2 -> 11
            """);
    }

    private static void numbersOfMoves() {
        CUBES.sentence("7: a MOVE is told as 8 CUBE and a WAY (0 .. 7); -1: no such MOVE", """
            can 0 -> -1
            cubes 2 9 0,0 1,0
            can -1 -> -1
            can -8 -> -1
            can min -> -1
            ways 0 -> 0 0 0 0 1 0 0 0
            ways 1 -> 0 0 0 0 0 1 0 0
            can 16 -> -1
            can 20 -> -1
            can max -> -1
            """);
        CUBES.sentence("8: -1: no such MOVE; -3: it CAN'T be", """
            move 0 -> -1
            cubes 2 9 0,0 1,0
            move -1 -> -1
            move -4 -> -1
            move min -> -1
            move 16 -> -1
            move 20 -> -1
            move max -> -1
            move 0 -> -3
            move 15 -> -3
            move 13 -> 8
            at 0 1 -> 1
            """);
        CUBES.sentence("7, 9: MOVES of the last of 16 CUBES", """
            cubes 0 0 0,0 1,0 2,0 3,0 4,0 5,0 6,0 7,0 8,0 9,0 0,1 1,1 2,1 3,1 4,1
            moves -> 0
            cube 0 5 1 3 -> 15
            ways 15 -> 1 0 0 0 0 1 0 0
            can 128 -> -1
            move 128 -> -1
            moves -> 2
            move 120 -> 0
            moves -> 0
            at 6 1 -> 15
            """);
        CUBES.sentence("9: how many MOVES CAN be: none without CUBES, those of the first and of the last", """
            moves -> 0
            cube 2 4 0 9 -> 0
            moves -> 2
            cube 2 5 0 9 -> 1
            moves -> 2
            charge 0 0 -> 9
            moves -> 1
            charge 1 0 -> 9
            moves -> 0
            """);
    }

    private static void waysOfMoves() {
        CUBES.sentence("WAY 0 goes east, to x 9 and no further", """
            cube 2 8 0 9 -> 0
            move 0 -> 8
            abouts 0 -> 2 9 0 8 0 0 0 0 0 -4 0
            can 0 -> 0
            move 0 -> -3
            """);
        CUBES.sentence("WAY 2 goes west, to x 0 and no further", """
            cube 2 1 0 9 -> 0
            move 2 -> 8
            abouts 0 -> 2 0 0 8 0 0 0 0 0 -4 0
            can 2 -> 0
            move 2 -> -3
            """);
        CUBES.sentence("WAY 1 goes north, to y 7 and no further", """
            cubes 2 9 1,0 1,1 1,2 1,3 1,4 1,5 1,6 1,7 0,6
            move 65 -> 8
            at 0 7 -> 8
            ways 8 -> 0 0 0 1 0 0 0 0
            move 65 -> -3
            """);
        CUBES.sentence("WAY 3 goes south, to y 0 and no further", """
            cubes 2 9 1,0 1,1 0,1
            move 19 -> 8
            at 0 0 -> 2
            ways 2 -> 0 1 0 0 0 0 0 0
            move 19 -> -3
            """);
        CUBES.sentence("WAY 4 turns north, then east", """
            cubes 2 9 0,0 1,0
            move 4 -> 8
            at 1 1 -> 0
            """);
        CUBES.sentence("WAY 5 turns north, then west", """
            cubes 2 9 9,0 8,0
            ways 0 -> 0 0 0 0 0 1 0 0
            move 5 -> 8
            at 8 1 -> 0
            """);
        CUBES.sentence("WAY 6 turns south, then west", """
            cubes 2 9 0,0 0,1 0,2 1,2 2,2
            ways 4 -> 0 0 0 0 0 1 1 0
            move 38 -> 8
            at 1 1 -> 4
            """);
        CUBES.sentence("WAY 7 turns south, then east", """
            cubes 2 9 9,0 9,1 9,2 8,2 7,2
            ways 4 -> 0 0 0 0 1 0 0 1
            move 39 -> 8
            at 8 1 -> 4
            """);
    }

    private static void slides() {
        CUBES.sentence("a slide: the CELL come to is free", """
            cubes 2 9 0,0 1,0 2,0 1,1
            can 0 -> 0
            can 18 -> 0
            can 11 -> 0
            can 9 -> 0
            can 27 -> 0
            """);
        CUBES.sentence("a slide: THE GROUND is something below both CELLS at y 0", """
            cube 2 0 0 9 -> 0
            can 0 -> 1
            move 0 -> 8
            can 0 -> 1
            can 2 -> 1
            """);
        CUBES.sentence("a slide: along other CUBES below", """
            cubes 2 9 0,0 1,0 0,1
            ways 2 -> 1 0 0 0 0 0 0 0
            move 16 -> 8
            ways 2 -> 0 0 1 0 0 0 0 0
            """);
        CUBES.sentence("a slide: along other CUBES above", """
            cubes 2 9 0,0 0,1 0,2 0,3 1,3 2,3 1,2
            can 48 -> 1
            move 48 -> 8
            can 50 -> 1
            """);
        CUBES.sentence("a slide: something below the one CELL and above the other is not enough", """
            cubes 2 9 1,0 0,0 0,1 0,2 0,3 1,3 2,3 2,2 1,1
            can 64 -> 0
            cube 2 2 0 9 -> 9
            can 64 -> 1
            """);
        CUBES.sentence("a slide: something to the east of the one and to the west of the other is not enough", """
            cubes 2 9 2,0 2,1 3,1 3,2 3,3 2,3 1,3 0,3 0,2 1,1
            can 73 -> 0
            cube 2 2 2 9 -> 10
            can 73 -> 1
            """);
        CUBES.sentence("a slide: below the CELL left there must be something, too", """
            cubes 2 9 0,0 0,1 1,1 2,1 2,0 0,2
            can 40 -> 1
            move 40 -> 8
            can 40 -> 1
            can 24 -> 0
            """);
        CUBES.sentence("a slide north or south: a CUBE to the west of both CELLS", """
            cubes 2 9 1,0 1,1 2,0
            can 17 -> 1
            move 17 -> 8
            can 19 -> 1
            """);
        CUBES.sentence("a slide north or south: a CUBE to the east of both CELLS", """
            cubes 2 9 1,0 1,1 0,0
            can 17 -> 1
            move 17 -> 8
            can 19 -> 1
            """);
        bordersOfTheGrid();
    }

    private static void bordersOfTheGrid() {
        CUBES.sentence("a slide: there is nothing west of x 0", """
            cubes 2 9 1,0 2,0 2,1 2,2 1,2 0,2 0,0
            can 49 -> 0
            cube 2 1 1 9 -> 7
            can 49 -> 1
            """);
        CUBES.sentence("a slide: there is nothing east of x 9", """
            cubes 2 9 8,0 7,0 7,1 7,2 8,2 9,2 9,0
            can 49 -> 0
            cube 2 8 1 9 -> 7
            can 49 -> 1
            """);
        CUBES.sentence("a slide: there is nothing above y 7", """
            cubes 2 9 2,0 2,1 2,2 2,3 2,4 2,5 2,6 2,7 1,5 0,5 0,6 0,7
            can 88 -> 0
            cube 2 1 6 9 -> 12
            can 88 -> 1
            """);
    }

    private static void turns() {
        CUBES.sentence("a turn: the CELL between is free", """
            cubes 2 9 1,0 2,0 2,1 2,2 1,2 0,2 0,1 0,0
            can 60 -> 0
            """);
        CUBES.sentence("a turn: with the CELL between free it CAN be", """
            cubes 2 9 1,0 2,0 2,1 2,2 1,2 0,2 0,0
            can 52 -> 1
            """);
        CUBES.sentence("a turn: the CELL between is free: to the south, then west", """
            cubes 2 9 0,0 0,1 0,2 1,2 2,2 0,3 1,3 2,3
            can 38 -> 1
            cubes 2 9 3,3 3,2 3,1
            can 38 -> 1
            cube 2 2 1 9 -> 11
            can 38 -> 0
            """);
        CUBES.sentence("a turn: the CELL between is free: to the south, then east", """
            cubes 2 9 9,0 9,1 9,2 8,2 7,2 9,3 8,3 7,3
            can 39 -> 1
            cubes 2 9 6,3 6,2 6,1
            can 39 -> 1
            cube 2 7 1 9 -> 11
            can 39 -> 0
            """);
        CUBES.sentence("a turn: the CELL one off the second way alone has a CUBE: below to the west", """
            cubes 2 9 0,0 0,1 0,2 0,3 1,3 2,3 2,2
            can 54 -> 0
            cube 2 1 2 9 -> 7
            can 54 -> 1
            """);
        CUBES.sentence("a turn: the CELL one off the second way alone has a CUBE: below to the east", """
            cubes 2 9 9,0 9,1 9,2 9,3 8,3 7,3 7,2
            can 55 -> 0
            cube 2 8 2 9 -> 7
            can 55 -> 1
            """);
        CUBES.sentence("a turn: the CELL come to is free", """
            cubes 2 9 1,0 1,1 0,0
            ways 2 -> 0 1 0 0 0 0 0 0
            """);
        CUBES.sentence("a turn: the CELL between is there: not above y 7", """
            cubes 2 9 1,0 1,1 1,2 1,3 1,4 1,5 1,6 1,7 0,7
            ways 8 -> 0 0 0 1 0 0 0 0
            """);
        CUBES.sentence("a turn: the CELL between is there: not below y 0, THE GROUND is no CELL", """
            cubes 2 9 4,0 5,0 3,0
            ways 1 -> 0 0 0 0 0 1 0 0
            ways 2 -> 0 0 0 0 1 0 0 0
            """);
        CUBES.sentence("a turn: the CELL one off the second way alone has a CUBE: to the east", """
            cubes 2 9 2,0 3,0 4,0 4,1 4,2 2,1
            ways 5 -> 1 0 0 0 0 0 0 0
            cube 2 3 1 9 -> 6
            ways 5 -> 0 0 0 0 1 0 0 0
            """);
        CUBES.sentence("a turn: the CELL one off the second way alone has a CUBE: to the west", """
            cubes 2 9 7,0 6,0 5,0 5,1 5,2 7,1
            ways 5 -> 0 0 1 0 0 0 0 0
            cube 2 6 1 9 -> 6
            ways 5 -> 0 0 0 0 0 1 0 0
            """);
        CUBES.sentence("a turn: the CELL one off the first way is not enough to turn about", """
            cubes 2 9 2,0 2,1 1,1
            ways 2 -> 0 0 0 1 1 0 0 0
            ways 1 -> 0 0 0 0 0 0 0 0
            """);
    }

    private static void ofAllWays() {
        CUBES.sentence("of all WAYS: POWER of its COST at least: PLAIN 3", """
            cube 0 4 0 2 -> 0
            ways 0 -> 0 0 0 0 0 0 0 0
            move 0 -> -3
            charge 0 3 -> 2
            ways 0 -> 1 0 1 0 0 0 0 0
            move 0 -> 0
            move 2 -> -3
            """);
        CUBES.sentence("of all WAYS: POWER of its COST at least: STRONG 4", """
            cube 1 4 0 3 -> 0
            move 0 -> -3
            charge 0 4 -> 3
            move 0 -> 0
            charge 0 999 -> 0
            move 0 -> 995
            """);
        CUBES.sentence("of all WAYS: POWER of its COST at least: MOTOR 1", """
            cube 2 4 0 0 -> 0
            move 0 -> -3
            charge 0 1 -> 0
            move 0 -> 0
            """);
        CUBES.sentence("of all WAYS: POWER of its COST at least: PILOT as a MOTOR", """
            cube 3 4 0 0 -> 0
            move 0 -> -3
            charge 0 1 -> 0
            move 0 -> 0
            """);
        CUBES.sentence("of all WAYS: POWER of its COST at least, for a turn too", """
            cube 0 0 0 2 -> 0
            cube 0 1 0 0 -> 1
            can 4 -> 0
            charge 0 3 -> 2
            can 4 -> 1
            move 4 -> 0
            """);
        CUBES.sentence("of all WAYS: the others are WHOLE if there are none", """
            cube 2 0 0 1 -> 0
            can 0 -> 1
            """);
        CUBES.sentence("of all WAYS: the others are WHOLE, though all would be behind it", """
            cubes 2 9 0,0 1,0 2,0 0,1 2,1
            ways 1 -> 0 0 0 0 0 0 0 0
            move 9 -> -3
            """);
        CUBES.sentence("of all WAYS: the others are not WHOLE by a corner, to the north and east", """
            cubes 2 9 0,0 1,0 1,1 2,1
            ways 1 -> 0 0 0 0 0 0 0 0
            cube 2 0 1 9 -> 4
            ways 1 -> 1 0 0 0 0 0 0 0
            """);
        CUBES.sentence("of all WAYS: the others are not WHOLE by a corner, to the north and west", """
            cubes 2 9 9,0 8,0 8,1 7,1
            ways 1 -> 0 0 0 0 0 0 0 0
            cube 2 9 1 9 -> 4
            ways 1 -> 0 0 1 0 0 0 0 0
            """);
        CUBES.sentence("of all WAYS: of the others one at least is at y 0", """
            cubes 2 9 0,0 0,1 1,1
            ways 0 -> 0 0 0 0 0 0 0 0
            """);
        CUBES.sentence("of all WAYS: all are WHOLE behind it: by a slide", """
            cubes 2 9 4,0 5,0
            can 2 -> 0
            can 8 -> 0
            cube 2 5 1 9 -> 2
            can 8 -> 0
            """);
        CUBES.sentence("of all WAYS: others that hang but on the one that goes", """
            cubes 2 9 4,0 5,0 6,0
            ways 1 -> 0 0 0 0 0 0 0 0
            ways 0 -> 0 0 0 0 1 0 0 0
            ways 2 -> 0 0 0 0 0 1 0 0
            """);
    }

    private static void loads() {
        CUBES.sentence("LOADS: a CUBE at y 0 gives nothing on", "cubes 3 0 0,0 1,0 2,0 1,1\n loads -> 0 6 0 0");
        CUBES.sentence("LOADS: one with a CUBE right below gives to that alone", """
            cubes 0 0 0,0 0,1 0,2 1,0 1,1
            loads -> 4 2 0 2 0
            """);
        CUBES.sentence("LOADS: from y 7 down to y 0", """
            cubes 1 0 4,0 4,1 4,2 4,3 4,4 4,5 4,6 4,7
            loads -> 21 18 15 12 9 6 3 0
            broken -> 3
            """);
        CUBES.sentence("LOADS: between two, half, cut, to the eastern one, the rest to the western one", """
            cubes 0 0 0,0 1,0 2,0 0,1 2,1 0,2 2,2
            cube 1 1 2 0 -> 7
            loads -> 6 0 5 4 3 2 1 0
            """);
        CUBES.sentence("LOADS: between two, an even one is halved", """
            cubes 0 0 0,0 1,0 2,0 0,1 2,1 0,2 2,2
            cube 3 1 2 0 -> 7
            loads -> 7 0 7 5 5 3 3 0
            """);
        CUBES.sentence("LOADS: between two, half of both WEIGHT and LOAD together", """
            cubes 0 0 0,0 1,0 2,0 0,1 2,1 0,2 2,2
            cube 1 1 2 0 -> 7
            cube 2 1 3 0 -> 8
            loads -> 7 0 7 5 5 3 3 3 0
            """);
        CUBES.sentence("LOADS: with an eastern one alone all to that", """
            cubes 0 0 1,0 1,1
            cube 1 0 1 0 -> 2
            loads -> 5 3 0
            """);
        CUBES.sentence("LOADS: with a western one alone all to that", """
            cubes 0 0 8,0 8,1
            cube 1 9 1 0 -> 2
            loads -> 5 3 0
            """);
        CUBES.sentence("LOADS: with none it gives nothing", """
            cubes 0 0 0,0 0,1 0,2 0,3 1,3 2,3 2,2
            loads -> 7 5 3 1 0 1 3
            about 6 10 -> 1
            about 6 6 -> 0
            """);
        CUBES.sentence("LOADS: those that HANG go ahead of those of that y that don't", """
            cubes 0 0 0,0 0,1 1,1
            loads -> 4 2 0
            """);
        CUBES.sentence("LOADS: in each y by x: the western of two that HANG gives first", """
            cubes 0 0 0,0 0,1 1,1 2,1
            loads -> 3 1 3 1
            """);
        CUBES.sentence("LOADS: in each y by x: what comes from the west is given on to the east", """
            cubes 0 0 9,0 9,1 8,1 7,1
            loads -> 4 2 2 2
            """);
        CUBES.sentence("LOADS: CUBE 0 gives and gets like others: with one below", """
            cubes 2 9 0,0 1,0
            move 4 -> 8
            loads -> 0 3
            cube 0 1 2 0 -> 2
            loads -> 2 5 0
            """);
        CUBES.sentence("LOADS: CUBE 0 gives and gets like others: it is the western one", """
            cubes 2 9 0,0 1,0
            move 4 -> 8
            cube 0 2 1 0 -> 2
            loads -> 2 5 0
            cube 0 3 1 0 -> 3
            loads -> 1 4 3 1
            """);
        CUBES.sentence("LOADS: CUBE 0 gives and gets like others: it is the eastern one", """
            cubes 2 9 4,0 3,0
            move 5 -> 8
            cube 0 2 1 0 -> 2
            loads -> 2 5 0
            cube 0 1 1 0 -> 3
            loads -> 2 5 2 2
            """);
        CUBES.sentence("LOADS: CUBE 0 gives and gets like others: it HANGS", """
            cubes 2 9 2,0 1,0 0,0 0,1
            move 5 -> 8
            cube 2 2 1 9 -> 4
            about 0 10 -> 0
            move 8 -> 8
            about 0 10 -> 1
            loads -> 0 4 5 2 1
            """);
        CUBES.sentence("LOADS: nobody is BESIDE over the grid's borders", """
            cubes 0 0 9,0 9,1 9,2 8,2
            cube 1 8 1 0 -> 4
            loads -> 9 7 0 0 2
            """);
    }

    private static void broken() {
        CUBES.sentence("BROKEN: a LOAD above what it BEARS: PLAIN 6", """
            cubes 0 0 0,0 0,1 0,2 0,3
            about 0 5 -> 6
            about 0 6 -> 0
            broken -> 0
            cube 0 1 3 0 -> 4
            about 0 5 -> 8
            about 0 6 -> 1
            broken -> 1
            """);
        CUBES.sentence("BROKEN: PLAIN with 7", """
            cubes 0 0 0,0 0,1 0,2
            cube 1 0 3 0 -> 3
            loads -> 7 5 3 0
            about 0 6 -> 1
            about 1 6 -> 0
            broken -> 1
            """);
        CUBES.sentence("BROKEN: STRONG twice that: not with 12, but with 13", """
            cube 1 0 0 0 -> 0
            cubes 0 0 0,1 0,2 0,3 0,4 0,5 0,6
            about 0 5 -> 12
            about 0 6 -> 0
            """);
        CUBES.sentence("BROKEN: STRONG with 13", """
            cube 1 0 0 0 -> 0
            cubes 0 0 0,1 0,2 0,3 0,4 0,5
            cube 1 0 6 0 -> 6
            about 0 5 -> 13
            about 0 6 -> 1
            """);
        CUBES.sentence("BROKEN: MOTOR 2 less than PLAIN: not with 4", """
            cube 2 0 0 0 -> 0
            cubes 0 0 0,1 0,2
            about 0 5 -> 4
            about 0 6 -> 0
            broken -> 0
            """);
        CUBES.sentence("BROKEN: MOTOR with 5", """
            cube 2 0 0 0 -> 0
            cube 0 0 1 0 -> 1
            cube 1 0 2 0 -> 2
            about 0 5 -> 5
            about 0 6 -> 1
            broken -> 1
            """);
        CUBES.sentence("BROKEN: PILOT half of a MOTOR's: not with 2", """
            cube 3 0 0 0 -> 0
            cube 0 0 1 0 -> 1
            about 0 5 -> 2
            about 0 6 -> 0
            broken -> 0
            """);
        CUBES.sentence("BROKEN: PILOT with 3", """
            cube 3 0 0 0 -> 0
            cube 1 0 1 0 -> 1
            about 0 5 -> 3
            about 0 6 -> 1
            broken -> 1
            """);
        CUBES.sentence("10: how many are BROKEN: none without CUBES, the first and the last", """
            broken -> 0
            cubes 3 0 0,0 0,1
            broken -> 1
            cubes 3 0 0,2 1,2 1,3 1,4
            loads -> 30 24 18 12 6 0
            about 5 6 -> 0
            broken -> 5
            """);
        CUBES.sentence("10: the last of 16 CUBES is BROKEN", """
            cubes 1 0 0,0 0,1 1,1 0,2 0,3 0,4 0,5 0,6 0,7 1,2 1,3 1,4 1,5 1,6 1,7
            loads -> 42 39 18 15 12 9 6 3 0 15 12 9 6 3 0
            broken -> 5
            cube 3 1 0 0 -> 15
            loads -> 21 18 18 15 12 9 6 3 0 15 12 9 6 3 0 21
            about 15 6 -> 1
            broken -> 6
            """);
    }

    public static void main(String[] args) {
        aNewObject();
        cubes();
        about();
        at();
        dead();
        charge();
        numbersOfMoves();
        waysOfMoves();
        slides();
        turns();
        ofAllWays();
        loads();
        broken();
        CUBES.end();
    }
}
