/** The boundary cases that DOC.md names of REPORTS, THE LOG, THE IMAGE and counts: promises 22 to 27. */
public final class ReportsBoundaryTest {
    private static final Boundaries REPORTS = new Boundaries("reports");

    private static void report() {
        REPORTS.sentence("22: a TICK is 0 .. TICKS", """
            cube 0 0 0 0 -> 0
            report 0 -1 true -> -1
            report 0 1 true -> -1
            report 0 min true -> -1
            report 0 max true -> -1
            report 0 0 true -> 0
            ticks 3 -> 0
            report 0 4 true -> -1
            report 0 -1 true -> -1
            report 0 3 true -> 1
            report 0 0 false -> 2
            count 5 -> 3
            """);
        REPORTS.sentence("22: -1: a CUBE that isn't there", """
            report 0 0 true -> -1
            cubes 0 0 0,0 1,0
            report -1 0 true -> -1
            report 2 0 true -> -1
            report min 0 true -> -1
            report max 0 false -> -1
            report 1 0 true -> 0
            """);
        REPORTS.sentence("REPORTS, 40 at most: its number from 0; -2: no room", """
            cube 0 0 0 0 -> 0
            39 times report 0 0 true
            count 5 -> 39
            believed 0 0 -1 -> 1
            report 0 0 false -> 39
            count 5 -> 40
            believed 0 0 -1 -> 0
            report 0 0 true -> -2
            report 0 0 false -> -2
            count 5 -> 40
            believed 0 0 -1 -> 0
            """);
        REPORTS.sentence("22: -1 ahead of -2", """
            cube 0 0 0 0 -> 0
            40 times report 0 0 true
            report 0 1 true -> -1
            report 0 -1 true -> -1
            report 1 0 true -> -1
            report -1 0 true -> -1
            report 0 0 true -> -2
            """);
        REPORTS.sentence("REPORTS change only what was believed", """
            cube 2 0 0 9 -> 0
            report 0 0 true -> 0
            about 0 4 -> 0
            count 1 -> 0
            count 8 -> 0
            can 0 -> 1
            dead 0 true -> 1
            report 0 0 false -> 1
            about 0 4 -> 1
            count 8 -> 1
            can 0 -> 0
            """);
        REPORTS.sentence("26: as many REPORTS as then: there is room again", """
            cube 0 0 0 0 -> 0
            39 times report 0 0 false
            image -> 0
            report 0 0 true -> 39
            believed 0 0 -1 -> 1
            report 0 0 true -> -2
            restore -> 0
            count 5 -> 39
            believed 0 0 -1 -> 0
            believed 0 0 40 -> -1
            report 0 0 false -> 39
            believed 0 0 -1 -> 0
            """);
    }

    private static void believed() {
        REPORTS.sentence("23: a TICK is 0 .. TICKS", """
            cube 0 0 0 0 -> 0
            report 0 0 true -> 0
            believed 0 0 -1 -> 1
            believed 0 1 -1 -> -1
            believed 0 -1 -1 -> -1
            ticks 5 -> 0
            believed 0 5 -1 -> 1
            believed 0 6 -1 -> -1
            believed 0 min -1 -> -1
            believed 0 max -1 -> -1
            """);
        REPORTS.sentence("23: -1: a CUBE that isn't there", """
            believed 0 0 -1 -> -1
            cubes 0 0 0,0 1,0
            believed -1 0 -1 -> -1
            believed 2 0 -1 -> -1
            believed min 0 -1 -> -1
            believed max 0 -1 -> -1
            believed 1 0 -1 -> 0
            """);
        REPORTS.sentence("BELIEVED by the first e, -1: all, 0: none; -1: e below -1, above how many there are (NOTES.md)", """
            cube 0 0 0 0 -> 0
            believed 0 0 0 -> 0
            believed 0 0 -1 -> 0
            believed 0 0 1 -> -1
            report 0 0 true -> 0
            report 0 0 false -> 1
            report 0 0 true -> 2
            believed 0 0 0 -> 0
            believed 0 0 1 -> 1
            believed 0 0 2 -> 0
            believed 0 0 3 -> 1
            believed 0 0 4 -> -1
            believed 0 0 -1 -> 1
            believed 0 0 -2 -> -1
            believed 0 0 min -> -1
            believed 0 0 max -> -1
            """);
        REPORTS.sentence("BELIEVED by the first 40", """
            cube 0 0 0 0 -> 0
            39 times report 0 0 false
            report 0 0 true -> 39
            believed 0 0 39 -> 0
            believed 0 0 40 -> 1
            believed 0 0 41 -> -1
            believed 0 0 -1 -> 1
            """);
        REPORTS.sentence("BELIEVED: without a REPORT of it, of that TICK or earlier, it is well", """
            cubes 0 0 0,0 1,0
            ticks 4 -> 0
            believed 0 4 -1 -> 0
            report 0 2 true -> 0
            believed 0 0 -1 -> 0
            believed 0 1 -1 -> 0
            believed 0 2 -1 -> 1
            believed 0 3 -1 -> 1
            believed 0 4 -1 -> 1
            believed 1 2 -1 -> 0
            believed 1 4 -1 -> 0
            """);
        REPORTS.sentence("BELIEVED: the REPORT of the latest TICK, however late others come", """
            cube 0 0 0 0 -> 0
            ticks 4 -> 0
            report 0 3 true -> 0
            report 0 1 false -> 1
            report 0 2 false -> 2
            believed 0 3 -1 -> 1
            believed 0 4 -1 -> 1
            believed 0 2 -1 -> 0
            report 0 4 false -> 3
            believed 0 3 -1 -> 1
            believed 0 4 -1 -> 0
            """);
        REPORTS.sentence("BELIEVED: of several of one TICK the one told last", """
            cube 0 0 0 0 -> 0
            ticks 2 -> 0
            report 0 1 true -> 0
            report 0 1 false -> 1
            believed 0 1 -1 -> 0
            report 0 1 true -> 2
            believed 0 1 -1 -> 1
            believed 0 1 2 -> 0
            believed 0 2 1 -> 1
            """);
        REPORTS.sentence("BELIEVED: of TICK 2000 and in it", """
            cube 0 0 0 0 -> 0
            40 times ticks 50
            report 0 2000 true -> 0
            report 0 2001 true -> -1
            believed 0 2000 -1 -> 1
            believed 0 1999 -1 -> 0
            believed 0 2001 -1 -> -1
            """);
    }

    private static void wrong() {
        REPORTS.sentence("24: -1: a CUBE that isn't there, e out of range", """
            wrong 0 -1 -> -1
            cubes 0 0 0,0 1,0
            wrong -1 -1 -> -1
            wrong 2 -1 -> -1
            wrong min -1 -> -1
            wrong max -1 -> -1
            wrong 0 -2 -> -1
            wrong 0 min -> -1
            wrong 0 max -> -1
            wrong 0 1 -> -1
            wrong 0 0 -> 0
            wrong 1 -1 -> 0
            report 0 0 true -> 0
            wrong 0 1 -> 0
            wrong 0 2 -> -1
            """);
        REPORTS.sentence("WRONG: from 0 to TICKS less 1: none where TICKS is 0", """
            cube 0 0 0 0 -> 0
            dead 0 true -> 1
            wrong 0 -1 -> 0
            ticks 1 -> 0
            wrong 0 -1 -> 1
            """);
        REPORTS.sentence("WRONG: from 0 to TICKS less 1: not in the TICK that is now", """
            cube 0 0 0 0 -> 0
            ticks 3 -> 0
            dead 0 true -> 1
            wrong 0 -1 -> 0
            report 0 3 true -> 0
            wrong 0 -1 -> 0
            ticks 1 -> 0
            wrong 0 -1 -> 0
            wrong 0 0 -> 1
            report 0 4 false -> 1
            wrong 0 -1 -> 0
            ticks 2 -> 0
            wrong 0 -1 -> 2
            """);
        REPORTS.sentence("WRONG: in TICK 0, too", """
            cube 0 0 0 0 -> 0
            report 0 0 true -> 0
            ticks 4 -> 0
            wrong 0 -1 -> 4
            report 0 1 false -> 1
            wrong 0 -1 -> 1
            """);
        REPORTS.sentence("WRONG: than it was at the end of that TICK", """
            cube 0 0 0 0 -> 0
            ticks 1 -> 0
            dead 0 true -> 1
            dead 0 false -> 1
            ticks 1 -> 0
            wrong 0 -1 -> 0
            dead 0 true -> 1
            dead 0 false -> 1
            dead 0 true -> 1
            ticks 1 -> 0
            wrong 0 -1 -> 1
            dead 0 false -> 1
            ticks 1 -> 0
            wrong 0 -1 -> 1
            report 0 2 true -> 0
            wrong 0 -1 -> 1
            report 0 3 false -> 1
            wrong 0 -1 -> 0
            """);
        REPORTS.sentence("WRONG by e: by the first e, 0 none, -1 all", """
            cube 0 0 0 0 -> 0
            ticks 2 -> 0
            dead 0 true -> 1
            ticks 5 -> 0
            dead 0 false -> 1
            ticks 3 -> 0
            wrong 0 0 -> 5
            report 0 4 true -> 0
            wrong 0 1 -> 5
            report 0 7 false -> 1
            wrong 0 2 -> 2
            wrong 0 1 -> 5
            report 0 2 true -> 2
            wrong 0 3 -> 0
            wrong 0 -1 -> 0
            wrong 0 4 -> -1
            wrong 0 0 -> 5
            """);
        REPORTS.sentence("WRONG: of one CUBE, whatever others were", """
            cubes 0 0 0,0 1,0
            dead 0 true -> 1
            report 1 0 true -> 0
            ticks 3 -> 0
            wrong 0 -1 -> 3
            wrong 1 -1 -> 3
            wrong 1 0 -> 0
            """);
        REPORTS.sentence("WRONG: ahead of its coming a CUBE is well (NOTES.md)", """
            cube 0 0 0 0 -> 0
            ticks 3 -> 0
            cube 0 1 0 0 -> 1
            wrong 1 -1 -> 0
            report 1 1 true -> 0
            wrong 1 -1 -> 2
            """);
        REPORTS.sentence("WRONG: in all of 2000 TICKS", """
            cube 0 0 0 0 -> 0
            dead 0 true -> 1
            40 times ticks 50
            wrong 0 -1 -> 2000
            report 0 1999 true -> 0
            wrong 0 -1 -> 1999
            report 0 0 true -> 1
            wrong 0 -1 -> 0
            report 0 2000 false -> 2
            wrong 0 -1 -> 0
            """);
        REPORTS.sentence("WRONG: with 40 changes and 40 REPORTS, each of a TICK of its own", """
            cube 0 0 0 0 -> 0
            ticks 1
            20 times dead 0 true / ticks 2 / dead 0 false / ticks 2
            wrong 0 -1 -> 40
            report 0 2 false -> 0
            report 0 4 false -> 1
            report 0 6 false -> 2
            report 0 8 false -> 3
            report 0 10 false -> 4
            report 0 12 false -> 5
            report 0 14 false -> 6
            report 0 16 false -> 7
            report 0 18 false -> 8
            report 0 20 false -> 9
            report 0 22 false -> 10
            report 0 24 false -> 11
            report 0 26 false -> 12
            report 0 28 false -> 13
            report 0 30 false -> 14
            report 0 32 false -> 15
            report 0 34 false -> 16
            report 0 36 false -> 17
            report 0 38 false -> 18
            report 0 40 false -> 19
            report 0 42 false -> 20
            report 0 44 false -> 21
            report 0 46 false -> 22
            report 0 48 false -> 23
            report 0 50 false -> 24
            report 0 52 false -> 25
            report 0 54 false -> 26
            report 0 56 false -> 27
            report 0 58 false -> 28
            report 0 60 false -> 29
            report 0 62 false -> 30
            report 0 64 false -> 31
            report 0 66 false -> 32
            report 0 68 false -> 33
            report 0 70 false -> 34
            report 0 72 false -> 35
            report 0 74 false -> 36
            report 0 76 false -> 37
            report 0 78 false -> 38
            report 0 80 true -> 39
            wrong 0 0 -> 40
            wrong 0 39 -> 40
            wrong 0 40 -> 41
            wrong 0 -1 -> 41
            count 6 -> 81
            """);
    }

    private static void image() {
        REPORTS.sentence("26: -3: there is no IMAGE; of a new object there can be one", """
            restore -> -3
            image -> 0
            cube 0 0 0 0 -> 0
            ticks 1 -> 0
            restore -> 0
            counts -> 0 0 0 0 0 0 0 0 0
            at 0 0 -> -4
            cube 0 1 0 0 -> 0
            restore -> 0
            count 0 -> 0
            """);
        REPORTS.sentence("26: -3: without an IMAGE nothing is RESTORED", """
            cube 3 0 0 9 -> 0
            programOf 1=1?=5; -> 0
            gives 0 0 -> -4
            shapeOf b0000 -> 0
            report 0 0 true -> 0
            dead 0 true / dead 0 false
            ticks 2 -> 0
            restore -> -3
            abouts 0 -> 3 0 0 9 0 0 0 5 0 0 0
            counts -> 1 0 9 1 1 1 2 6 2
            sum 7 -> -12
            restore -> -3
            """);
        REPORTS.sentence("25: THE IMAGE is taken: TICKS; another takes its place", """
            cube 0 0 0 0 -> 0
            ticks 3 -> 0
            image -> 3
            ticks 4 -> 0
            image -> 7
            ticks 1 -> 0
            restore -> 7
            count 6 -> 7
            """);
        REPORTS.sentence("26: THE IMAGE stays as it is: RESTORED again and again", """
            cube 2 0 0 9 -> 0
            image -> 0
            move 0 -> 8
            ticks 2 -> 0
            restore -> 0
            move 0 -> 8
            ticks 5 -> 0
            restore -> 0
            abouts 0 -> 2 0 0 9 0 0 0 0 0 -4 0
            count 6 -> 0
            """);
        REPORTS.sentence("25: what is done behind THE IMAGE doesn't change it, what is RESTORED neither", """
            cube 2 0 0 9 -> 0
            programOf 1=1?=m+1; -> 0
            gives 0 0 -> -4
            ticks 2 -> 0
            image -> 2
            ticks 3 -> 0
            dead 0 true -> 1
            charge 0 5 -> 9
            gives 0 -1 -> 0
            report 0 1 true -> 0
            restore -> 2
            abouts 0 -> 2 0 0 9 0 0 0 2 0 0 0
            counts -> 1 0 9 0 1 0 2 3 0
            restore -> 2
            abouts 0 -> 2 0 0 9 0 0 0 2 0 0 0
            """);
        allOfTheImage();
    }

    private static void allOfTheImage() {
        REPORTS.sentence("THE IMAGE: CELLS: where CUBES were and where they came", """
            cubes 2 9 0,0 1,0
            image -> 0
            move 4 -> 8
            cube 0 0 0 0 -> 2
            restore -> 0
            at 0 0 -> 0
            at 1 0 -> 1
            at 1 1 -> -4
            about 2 0 -> -1
            ways 0 -> 0 0 0 0 1 0 0 0
            """);
        REPORTS.sentence("THE IMAGE: what was said a tick ago", """
            cube 0 0 0 0 -> 0
            programOf 1=1?y8; -> 0
            gives 0 0 -> -4
            ticks 1 -> 0
            image -> 1
            gives 0 -1 -> 0
            ticks 1 -> 0
            about 0 8 -> 0
            restore -> 1
            about 0 8 -> 8
            about 0 9 -> 0
            """);
        REPORTS.sentence("THE IMAGE: SHAPES and PROGRAMS", """
            cube 0 0 0 0 -> 0
            shapeOf b0000 -> 0
            programOf 1=1?y1; -> 0
            gives 0 0 -> -4
            image -> 0
            shapeOf b0010 -> 1
            programOf 1=1?y2; -> 1
            gives 0 1 -> 0
            restore -> 0
            met 0 3 -> 1
            met 1 0 -> -1
            gives 0 1 -> -1
            shapeOf b0030 -> 1
            met 1 0 -> 4
            programOf 1=1?y3; -> 1
            gives 0 1 -> 0
            ticks 1 -> 0
            about 0 8 -> 3
            restore -> 0
            ticks 1 -> 0
            about 0 8 -> 1
            """);
        REPORTS.sentence("THE IMAGE: THE LOG, REPORTS, and who is DEAD", """
            cube 0 0 0 0 -> 0
            dead 0 true -> 1
            report 0 0 true -> 0
            ticks 2 -> 0
            image -> 2
            dead 0 false -> 1
            report 0 1 false -> 1
            ticks 2 -> 0
            wrong 0 -1 -> 1
            restore -> 2
            about 0 4 -> 1
            wrong 0 -1 -> 0
            wrong 0 2 -> -1
            wrong 0 0 -> 2
            believed 0 3 -1 -> -1
            believed 0 2 -1 -> 1
            """);
        REPORTS.sentence("THE IMAGE: all but SHELVES: they stay as they are", """
            cube 2 3 0 9 -> 0
            keep 0 1 0 -> 0
            row 1 2 2 -> 0
            put 1 1 5 -> 0
            image -> 0
            put 1 1 6 -> 0
            charge 0 50 -> 9
            keep 0 1 0 -> 0
            row 2 0 1 -> 0
            restore -> 0
            element 1 1 -> 6
            sum 0 -> 158
            element 2 0 -> 0
            sum 3 -> -11
            keep 1 0 0 -> 0
            restore -> 0
            sum 1 -> -11
            """);
        REPORTS.sentence("THE IMAGE: RESTORED twice, all is as it was then both times", twice());
        REPORTS.sentence("THE IMAGE: of a RESTORED object it can be taken again", """
            cube 2 0 0 9 -> 0
            image -> 0
            move 0 -> 8
            restore -> 0
            ticks 1 -> 0
            image -> 1
            move 0 -> 8
            restore -> 1
            about 0 1 -> 0
            count 6 -> 1
            """);
        REPORTS.sentence("THE IMAGE: 16 CUBES, and fewer again", """
            cubes 0 0 0,0 1,0 2,0
            image -> 0
            cubes 0 0 3,0 4,0 5,0 6,0 7,0 8,0 9,0 0,1 1,1 2,1 3,1 4,1 5,1
            cube 0 6 1 0 -> -2
            image -> 0
            restore -> 0
            count 0 -> 16
            at 5 1 -> 15
            cube 0 6 1 0 -> -2
            """);
    }

    /** Everything that THE IMAGE keeps is changed, RESTORED, changed and RESTORED. */
    private static String twice() {
        String change = """
            dead 1 true
            report 1 2 true -> 2
            report 0 0 true -> 3
            programOf 1=1?y9; -> 1
            gives 0 1 -> 0
            shapeOf b0030 -> 1
            ticks 4 -> 0
            charge 0 50
            dead 0 true
            dead 0 false
            cube 1 1 1 9 -> 2
            move 17 -> -3
            gives 1 -1
            """;
        String back = """
            restore -> 3
            abouts 0 -> 0 0 0 8 0 0 0 5 6 0 0
            abouts 1 -> 2 1 0 8 0 0 0 0 0 -4 0
            about 2 0 -> -1
            at 1 1 -> -4
            counts -> 2 0 16 1 1 2 3 5 2
            believed 0 0 -1 -> 0
            believed 0 1 -1 -> 1
            believed 0 2 -1 -> 0
            believed 1 3 -1 -> 0
            wrong 0 -1 -> 1
            met 0 3 -> 1
            met 1 0 -> -1
            gives 1 1 -> -1
            rule 0 -> 1
            """;
        return """
            cube 0 0 0 8 -> 0
            cube 2 1 0 8 -> 1
            programOf m=0?=5;m=5?y6; -> 0
            gives 0 0 -> -4
            shapeOf b0010 -> 0
            ticks 2 -> 0
            dead 1 true
            dead 1 false
            ticks 1 -> 0
            report 0 1 true -> 0
            report 0 2 false -> 1
            image -> 3
            """ + change + back + change + back;
    }

    private static void count() {
        REPORTS.sentence("27: what is 0 .. 8; -1 for others", """
            count -1 -> -1
            count 9 -> -1
            count min -> -1
            count max -> -1
            count 0 -> 0
            count 8 -> 0
            """);
        REPORTS.sentence("27: each by itself, DEAD ones count as CUBES, POWER and WEIGHT", """
            cube 0 0 0 10 -> 0
            cube 1 1 0 20 -> 1
            cube 2 2 0 30 -> 2
            cube 3 3 0 40 -> 3
            counts -> 4 0 100 0 0 0 0 14 0
            dead 3 true -> 1
            dead 2 true -> 1
            dead 2 false -> 1
            counts -> 4 1 100 0 0 0 0 14 3
            shapeOf b0000 -> 0
            shapeOf b0000 -> 1
            counts -> 4 1 100 2 0 0 0 14 3
            programOf 1=1?y0; -> 0
            counts -> 4 1 100 2 1 0 0 14 3
            report 0 0 true -> 0
            report 0 0 true -> 1
            report 0 0 true -> 2
            report 0 0 true -> 3
            counts -> 4 1 100 2 1 4 0 14 3
            ticks 7 -> 0
            counts -> 4 1 100 2 1 4 7 14 3
            """);
        REPORTS.sentence("27: of 16 CUBES, all DEAD, with all POWER", """
            cubes 3 999 0,0 1,0 2,0 3,0 4,0 5,0 6,0 7,0 8,0 9,0 0,1 1,1 2,1 3,1 4,1 5,1
            counts -> 16 0 15984 0 0 0 0 96 0
            dead 0 true / dead 1 true / dead 2 true / dead 3 true / dead 4 true / dead 5 true / dead 6 true / dead 7 true
            dead 8 true / dead 9 true / dead 10 true / dead 11 true / dead 12 true / dead 13 true / dead 14 true / dead 15 true
            counts -> 16 16 15984 0 0 0 0 96 16
            """);
    }

    public static void main(String[] args) {
        report();
        believed();
        wrong();
        image();
        count();
        REPORTS.end();
    }
}
