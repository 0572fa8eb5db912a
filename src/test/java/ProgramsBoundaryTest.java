import java.util.ArrayList;
import java.util.List;

/** The boundary cases that DOC.md names of PROGRAMS, TICKS and shared POWER: promises 18 to 21 (and 11). */
public final class ProgramsBoundaryTest {
    private static final Boundaries PROGRAMS = new Boundaries("programs");

    private static void faultsOfTexts() {
        PROGRAMS.sentence("RULES: 1 to 6: none", "programFault -> 0\n programFault 1=1?g0; -> -4");
        PROGRAMS.sentence("RULES: 1 to 6: 6 and 7", """
            programFault 1=1?g0;1=1?g0;1=1?g0;1=1?g0;1=1?g0;1=1?g0; -> -4
            programFault 1=1?g0;1=1?g0;1=1?g0;1=1?g0;1=1?g0;1=1?g0;1=1?g0; -> 42
            """);
        PROGRAMS.sentence("RULES: each with ; behind", """
            programFault 1=1?g0 -> 6
            programFault 1=1?g0;1=1?g0 -> 13
            programFault 1=1?g01=1?g0; -> 6
            programFault 1=1?g0;; -> 7
            """);
        PROGRAMS.sentence("a NUMBER has 1 or 2 digits", "programFault 9=99?y99; -> -4\n programFault 9=999?y99; -> 4\n programFault 9=99?y100; -> 8");
        PROGRAMS.sentence("a NUMBER is without 0 ahead of another", """
            programFault 0=10?y0; -> -4
            programFault 01=10?y0; -> 1
            programFault 00=10?y0; -> 1
            programFault 0=10?y00; -> 7
            programFault 0=1?=0+09; -> 8
            """);
        PROGRAMS.sentence("g and a digit 0 .. 7", """
            programFault 1=1?g0; -> -4
            programFault 1=1?g7; -> -4
            programFault 1=1?g8; -> 5
            programFault 1=1?g/; -> 5
            programFault 1=1?g; -> 5
            programFault 1=1?g07; -> 6
            """);
        PROGRAMS.sentence("CHECK: one of < > =", "programFault n<s?g0; -> -4\n programFault n>s?g0; -> -4\n programFault n=s?g0; -> -4\n"
                + " programFault n<=s?g0; -> 2\n programFault n==s?g0; -> 2\n programFault ns?g0; -> 1\n programFault n?g0; -> 1");
        PROGRAMS.sentence("TEST: one CHECK at least, & between two", """
            programFault ?g0; -> 0
            programFault 1=1&?g0; -> 4
            programFault 1=1&2=2&3=3?g0; -> -4
            programFault 1=12=2?g0; -> 4
            """);
        PROGRAMS.sentence("SUM: one ATOM at least, + or - between two", """
            programFault =1?g0; -> 0
            programFault 1=?g0; -> 2
            programFault 1=-1?g0; -> 2
            programFault 1=+1?g0; -> 2
            programFault 1=1-?g0; -> 4
            programFault 1=1?y; -> 5
            programFault 1=1?=; -> 5
            programFault 1=1?=-1; -> 5
            programFault n-1+s=1?y0-1; -> -4
            """);
        PROGRAMS.sentence("FIELDS: n e s w N E S W p t m, and no others", """
            programFault n+e+s+w=N+E+S+W?yp+t+m; -> -4
            programFault P=1?g0; -> 0
            programFault T=1?g0; -> 0
            programFault M=1?g0; -> 0
            programFault g=1?g0; -> 0
            programFault y=1?g0; -> 0
            """);
        PROGRAMS.sentence("FAULT of a ROW of 90 that ends too early is 90",
                "programFault 1=1?y" + "1+".repeat(42) + "1 -> 90\n program 7 -> -190");
        PROGRAMS.sentence("a ROW of 90 can be a PROGRAM", "programFault 1=1?y" + "1+".repeat(42) + "; -> 89\n programOf 1=1?y"
                + "1+".repeat(41) + "11; -> 0");
        PROGRAMS.sentence("every text that ends too early has its size for FAULT", tooEarly());
        PROGRAMS.sentence("every byte with which no PROGRAM can go on has its place for FAULT", goesOn());
    }

    private static List<String> tooEarly() {
        List<String> faults = new ArrayList<>();
        String text = "n<1?g0;10-p>N+e&t=m?y99-1;0=S?=m+1;";
        for (int n = 0; n <= text.length(); n++) {
            int due = n > 0 && text.charAt(n - 1) == ';' ? -4 : n;
            int got = Texts.fault(text.substring(0, n), 1);
            if (got != due) faults.add("\"" + text.substring(0, n) + "\" has FAULT " + got + ", due is " + due);
        }
        return faults;
    }

    private static List<String> goesOn() {
        List<String> faults = new ArrayList<>();
        String atom = "0123456789neswNESWptm";
        String rule = "n<1?g0;";
        for (String ahead : new String[] {"", "n+", "n-", "n<", "n>", "n=", "n<1&", "n<1?y", "n<1?=", "n<1?y1+", "n<1?=p-", "n<1+",
            "n<1&p+", "n<1&p=", rule, rule.repeat(5)}) {
            faults.addAll(Texts.goesOn(ahead, 1, atom));
        }
        faults.addAll(Texts.goesOn(rule.repeat(6), 1, ""));
        faults.addAll(Texts.goesOn("0", 1, "+-<>="));
        faults.addAll(Texts.goesOn("1", 1, "0123456789+-<>="));
        faults.addAll(Texts.goesOn("9", 1, "0123456789+-<>="));
        faults.addAll(Texts.goesOn("10", 1, "+-<>="));
        faults.addAll(Texts.goesOn("1+0", 1, "+-<>="));
        for (char field : "neswNESWptm".toCharArray()) {
            faults.addAll(Texts.goesOn(field + "", 1, "+-<>="));
        }
        faults.addAll(Texts.goesOn("n<0", 1, "+-&?"));
        faults.addAll(Texts.goesOn("n<5", 1, "0123456789+-&?"));
        faults.addAll(Texts.goesOn("n<50", 1, "+-&?"));
        faults.addAll(Texts.goesOn("n=e", 1, "+-&?"));
        faults.addAll(Texts.goesOn("n<1&e>s", 1, "+-&?"));
        faults.addAll(Texts.goesOn("n<1?", 1, "gy="));
        faults.addAll(Texts.goesOn("n<1?g", 1, "01234567"));
        faults.addAll(Texts.goesOn("n<1?g7", 1, ";"));
        faults.addAll(Texts.goesOn("n<1?y0", 1, "+-;"));
        faults.addAll(Texts.goesOn("n<1?y1", 1, "0123456789+-;"));
        faults.addAll(Texts.goesOn("n<1?=m", 1, "+-;"));
        faults.addAll(Texts.goesOn("n<1?=m-99", 1, "+-;"));
        return faults;
    }

    private static void program() {
        PROGRAMS.sentence("18: -2: 8 PROGRAMS", """
            text 0 1=1?y1;
            8 times program 0
            count 4 -> 8
            program 0 -> -2
            count 4 -> 8
            """);
        PROGRAMS.sentence("18: PROGRAMS are numbered from 0 on", """
            text 0 1=1?y1;
            program 0 -> 0
            program 0 -> 1
            program 0 -> 2
            program 0 -> 3
            program 0 -> 4
            program 0 -> 5
            program 0 -> 6
            put 0 5 57
            program 0 -> 7
            cube 0 0 0 0 -> 0
            gives 0 7 -> -4
            ticks 1 -> 0
            about 0 8 -> 9
            gives 0 6 -> 7
            ticks 1 -> 0
            about 0 8 -> 1
            """);
        PROGRAMS.sentence("18: -1, -2, -11, -12, -100 less a FAULT, in this order", """
            text 0 1=1?y1;
            row 1 1 3
            text 2 1=1?y;
            program 8 -> -1
            program -1 -> -1
            program 3 -> -11
            program 1 -> -12
            program 2 -> -105
            8 times program 0
            program 8 -> -1
            program -1 -> -1
            program min -> -1
            program max -> -1
            program 3 -> -2
            program 1 -> -2
            program 2 -> -2
            program 0 -> -2
            """);
        PROGRAMS.sentence("18: -12: ints, a CUBE", """
            cube 0 0 0 0 -> 0
            row 0 2 3
            program 0 -> -12
            keep 0 1 0
            program 0 -> -12
            """);
        PROGRAMS.sentence("18: -100 less a FAULT: from 0 on", """
            programOf -> -100
            programOf x -> -100
            programOf 1 -> -101
            programOf 1=1?g0 -> -106
            programOf 1=1?g0; -> 0
            """);
        PROGRAMS.sentence("18: it is the text as then: what is put in later doesn't matter", """
            cube 0 0 0 0 -> 0
            programOf 1=1?y1; -> 0
            gives 0 0 -> -4
            put 7 5 57
            ticks 1 -> 0
            about 0 8 -> 1
            row 7 0 6
            ticks 1 -> 0
            about 0 8 -> 1
            """);
        PROGRAMS.sentence("26: as many as then: there is room again", """
            cube 0 0 0 0 -> 0
            text 0 1=1?y1;
            7 times program 0
            image -> 0
            program 0 -> 7
            program 0 -> -2
            gives 0 7 -> -4
            restore -> 0
            gives 0 7 -> -1
            about 0 9 -> -4
            text 0 1=1?y8;
            program 0 -> 7
            gives 0 7 -> -4
            ticks 1 -> 0
            about 0 8 -> 8
            """);
    }

    private static void gives() {
        PROGRAMS.sentence("19: -1 is none; -4: none before; -1: no such PROGRAM", """
            cube 0 0 0 0 -> 0
            gives 0 0 -> -1
            gives 0 -1 -> -4
            programOf 1=1?y1; -> 0
            programOf 1=1?y2; -> 1
            gives 0 2 -> -1
            gives 0 -2 -> -1
            gives 0 min -> -1
            gives 0 max -> -1
            about 0 9 -> -4
            gives 0 1 -> -4
            about 0 9 -> 1
            gives 0 2 -> -1
            gives 0 0 -> 1
            gives 0 -1 -> 0
            gives 0 -1 -> -4
            about 0 9 -> -4
            """);
        PROGRAMS.sentence("19: -1: a CUBE that isn't there", """
            gives 0 -1 -> -1
            cube 0 0 0 0 -> 0
            programOf 1=1?y1; -> 0
            gives -1 0 -> -1
            gives 1 0 -> -1
            gives 1 -1 -> -1
            gives min 0 -> -1
            gives max 0 -> -1
            gives 0 0 -> -4
            """);
        PROGRAMS.sentence("19: MEMORY stays, and a DEAD one can have a PROGRAM (NOTES.md)", """
            cube 0 0 0 0 -> 0
            programOf 1=1?=7; -> 0
            programOf 1=1?=m+1; -> 1
            gives 0 0 -> -4
            ticks 1 -> 0
            dead 0 true -> 1
            gives 0 1 -> 0
            about 0 7 -> 7
            dead 0 false -> 1
            ticks 1 -> 0
            about 0 7 -> 8
            """);
    }

    private static void rule() {
        PROGRAMS.sentence("20: -1: a CUBE that isn't there", """
            rule 0 -> -1
            cube 0 0 0 0 -> 0
            programOf 1=1?y1; -> 0
            gives 0 0 -> -4
            rule -1 -> -1
            rule 1 -> -1
            rule min -> -1
            rule max -> -1
            rule 0 -> 0
            """);
        PROGRAMS.sentence("20: -3: it is DEAD, or has no PROGRAM", """
            cube 0 0 0 0 -> 0
            rule 0 -> -3
            programOf 1=1?y1; -> 0
            rule 0 -> -3
            gives 0 0 -> -4
            rule 0 -> 0
            dead 0 true -> 1
            rule 0 -> -3
            dead 0 false -> 1
            rule 0 -> 0
            gives 0 -1 -> 0
            rule 0 -> -3
            dead 0 true -> 1
            rule 0 -> -3
            """);
        PROGRAMS.sentence("20: the RULE from 0, the last of 6 is 5; -4: none", """
            cube 0 0 0 0 -> 0
            programOf p=0?y0;p=1?y0;p=2?y0;p=3?y0;p=4?y0;p=5?y0; -> 0
            gives 0 0 -> -4
            rule 0 -> 0
            charge 0 1 -> 0
            rule 0 -> 1
            charge 0 4 -> 1
            rule 0 -> 4
            charge 0 5 -> 4
            rule 0 -> 5
            charge 0 6 -> 5
            rule 0 -> -4
            """);
        PROGRAMS.sentence("the first RULE whose TEST holds, though others do", """
            cube 0 0 0 3 -> 0
            programOf p<3?y0;p<4?y0;p<5?y0;1=1?y0; -> 0
            gives 0 0 -> -4
            rule 0 -> 1
            charge 0 2 -> 3
            rule 0 -> 0
            charge 0 4 -> 2
            rule 0 -> 2
            charge 0 5 -> 4
            rule 0 -> 3
            """);
        checks();
    }

    private static void checks() {
        PROGRAMS.sentence("CHECK: < doesn't hold of two alike", rules("p<5?y0;", 4, 0, 5, -4, 6, -4));
        PROGRAMS.sentence("CHECK: > doesn't hold of two alike", rules("p>5?y0;", 4, -4, 5, -4, 6, 0));
        PROGRAMS.sentence("CHECK: = holds of two alike", rules("p=5?y0;", 4, -4, 5, 0, 6, -4));
        PROGRAMS.sentence("CHECK & TEST: all of them hold", rules("p>3&p<6&p=5?y0;", 3, -4, 4, -4, 5, 0, 6, -4));
        PROGRAMS.sentence("SUM: from the left", rules("p-3-2=1&9-5+p=10?y0;", 5, -4, 6, 0, 7, -4));
        PROGRAMS.sentence("SUM: below 0 it is compared as it is", rules("p-9<0?y0;0-1>p-9?y0;p-9=0?y0;", 0, 0, 8, 0, 9, 2, 10, -4));
        PROGRAMS.sentence("SUM: above 99 it is compared as it is", rules("p+99>99+99?y0;p=99?y0;", 99, 1, 100, 0, 999, 0, 98, -4));
        PROGRAMS.sentence("a NUMBER: 0, 9, 10, 99", rules("p=0?y0;p=9?y0;p=10?y0;p=99?y0;", 0, 0, 9, 1, 10, 2, 99, 3, 1, -4, 90, -4));
        PROGRAMS.sentence("p is its POWER, 0 .. 999", rules("p=99+99+99+99+99+99+99+99+99+99+9?y0;p=0?y0;", 0, 1, 999, 0, 998, -4));
        PROGRAMS.sentence("t is TICKS modulo 10", """
            cube 0 0 0 0 -> 0
            programOf t=0?=1;t=9?=9;t=1?=2;t>9?=55;1=1?=50; -> 0
            gives 0 0 -> -4
            rule 0 -> 0
            ticks 1 -> 0
            rule 0 -> 2
            ticks 7 -> 0
            rule 0 -> 4
            ticks 1 -> 0
            rule 0 -> 1
            ticks 1 -> 0
            about 0 7 -> 9
            rule 0 -> 0
            ticks 1 -> 0
            about 0 7 -> 1
            rule 0 -> 2
            count 6 -> 11
            """);
    }

    /** The RULE that one CUBE would do with these POWERS: power, rule, power, rule and so on. */
    private static String rules(String program, int... powerAndRule) {
        StringBuilder told = new StringBuilder("cube 0 0 0 0 -> 0\nprogramOf " + program + " -> 0\ngives 0 0 -> -4\n");
        for (int k = 0; k < powerAndRule.length; k += 2) {
            told.append("charge 0 ").append(powerAndRule[k]).append("\nrule 0 -> ").append(powerAndRule[k + 1]).append("\n");
        }
        return told.toString();
    }

    /** What is said, and what MEMORY is, by one ACT of a CUBE with this POWER. */
    private static String acts(String sum, int power, int due) {
        return "cube 0 0 0 " + power + " -> 0\nprogramOf 1=1?y" + sum + "; -> 0\nprogramOf 1=1?=" + sum + "; -> 1\n"
                + "gives 0 0 -> -4\nticks 1 -> 0\nabout 0 8 -> " + due + "\nabout 0 7 -> 0\n"
                + "gives 0 1 -> 0\nticks 1 -> 0\nabout 0 7 -> " + due + "\nabout 0 8 -> 0\n";
    }

    private static void acts() {
        PROGRAMS.sentence("y and = modulo 100: 0", acts("0", 0, 0));
        PROGRAMS.sentence("y and = modulo 100: 99", acts("99", 0, 99));
        PROGRAMS.sentence("y and = modulo 100: 100 is 0", acts("99+1", 0, 0));
        PROGRAMS.sentence("y and = modulo 100: 101 is 1", acts("99+2", 0, 1));
        PROGRAMS.sentence("y and = modulo 100: 1 below 0 is 99", acts("0-1", 0, 99));
        PROGRAMS.sentence("y and = modulo 100: 99 below 0 is 1", acts("0-99", 0, 1));
        PROGRAMS.sentence("y and = modulo 100: 100 below 0 is 0", acts("0-99-1", 0, 0));
        PROGRAMS.sentence("y and = modulo 100: 101 below 0 is 99", acts("0-99-2", 0, 99));
        PROGRAMS.sentence("y and = modulo 100: POWER 999 is 99", acts("p", 999, 99));
        PROGRAMS.sentence("y and = modulo 100: less POWER 999 is 1", acts("0-p", 999, 1));
        PROGRAMS.sentence("y and = modulo 100: at the end alone, not on the way", acts("99+99-99", 0, 99));
        PROGRAMS.sentence("MEMORY is 0 at first, and stays where no RULE makes it another", """
            cube 0 0 0 0 -> 0
            about 0 7 -> 0
            programOf m=0?=98;m=98?=m+3;m=1?y5; -> 0
            gives 0 0 -> -4
            ticks 1 -> 0
            about 0 7 -> 98
            ticks 1 -> 0
            about 0 7 -> 1
            ticks 2 -> 0
            about 0 7 -> 1
            """);
        PROGRAMS.sentence("g: the MOVE of that WAY, if it CAN be; else nothing", """
            cube 2 8 0 2 -> 0
            programOf 1=1?g0; -> 0
            gives 0 0 -> -4
            ticks 1 -> 1
            abouts 0 -> 2 9 0 1 0 0 0 0 0 0 0
            ticks 1 -> 0
            abouts 0 -> 2 9 0 1 0 0 0 0 0 0 0
            """);
        PROGRAMS.sentence("g: POWER of its COST at least", """
            cube 0 0 0 7 -> 0
            programOf 1=1?g0; -> 0
            gives 0 0 -> -4
            ticks 50 -> 2
            about 0 1 -> 2
            about 0 3 -> 1
            """);
        waysOfPrograms();
    }

    private static void waysOfPrograms() {
        String[] where = {"4,0", "1,0 1,1 0,0", "4,0", "1,0 1,1 0,1", "1,0 0,0", "0,0 1,0", "0,0 0,1 0,2 1,2 2,2", "9,0 9,1 9,2 8,2 7,2"};
        int[] come = {5, 0, 0, 1, 3, 0, 0, 0, 1, 1, 0, 1, 1, 1, 8, 1};
        for (int way = 0; way < 8; way++) {
            int last = where[way].split(" ").length - 1;
            PROGRAMS.sentence("g " + way + " is the MOVE of that WAY", "cubes 2 9 " + where[way] + "\nprogramOf 1=1?g" + way
                    + "; -> 0\ngives " + last + " 0 -> -4\nticks 1 -> 1\nat " + come[2 * way] + " " + come[2 * way + 1] + " -> " + last);
        }
    }

    private static void ticks() {
        PROGRAMS.sentence("21: -1: n is 1 .. 50", """
            ticks 0 -> -1
            ticks 51 -> -1
            ticks -1 -> -1
            ticks min -> -1
            ticks max -> -1
            count 6 -> 0
            ticks 1 -> 0
            ticks 50 -> 0
            count 6 -> 51
            """);
        PROGRAMS.sentence("21: TICKS are 2000 at most; -2: beyond, and none goes by", """
            39 times ticks 50
            ticks 49 -> 0
            count 6 -> 1999
            ticks 2 -> -2
            ticks 50 -> -2
            count 6 -> 1999
            ticks 1 -> 0
            count 6 -> 2000
            ticks 1 -> -2
            ticks 50 -> -2
            count 6 -> 2000
            """);
        PROGRAMS.sentence("21: to 2000 at once", """
            39 times ticks 50
            ticks 50 -> 0
            count 6 -> 2000
            """);
        PROGRAMS.sentence("21: -1 ahead of -2", """
            40 times ticks 50
            ticks 0 -> -1
            ticks 51 -> -1
            ticks max -> -1
            ticks min -> -1
            ticks 1 -> -2
            """);
        PROGRAMS.sentence("26: TICKS are as they were: there are more again", """
            39 times ticks 50
            image -> 1950
            ticks 50 -> 0
            ticks 1 -> -2
            restore -> 1950
            ticks 50 -> 0
            ticks 1 -> -2
            """);
        PROGRAMS.sentence("21: how many MOVES were done: of all CUBES in all TICKS", """
            cubes 2 9 0,0 1,0 2,0 3,0
            programOf 1=1?g4; -> 0
            programOf 1=1?g5; -> 1
            gives 0 0 -> -4
            gives 3 1 -> -4
            image -> 0
            ticks 1 -> 2
            at 1 1 -> 0
            at 2 1 -> 3
            ticks 1 -> 1
            at 2 2 -> 0
            ticks 1 -> 0
            restore -> 0
            ticks 3 -> 3
            """);
        PROGRAMS.sentence("21: without CUBES, and without PROGRAMS: 0", """
            ticks 1 -> 0
            cube 2 0 0 9 -> 0
            ticks 1 -> 0
            at 0 0 -> 0
            """);
        insideATick();
    }

    private static void insideATick() {
        PROGRAMS.sentence("A TICK: CUBES by numbers, each as all is then: MOVES are seen by the next at once", """
            cubes 2 9 0,0 1,0
            programOf n=0?g4; -> 0
            programOf n=1?=7;1=1?=5; -> 1
            gives 0 0 -> -4
            gives 1 1 -> -4
            ticks 1 -> 1
            about 1 7 -> 7
            """);
        PROGRAMS.sentence("A TICK: CUBES by numbers: a later MOVE is not seen by the one ahead", """
            cubes 2 9 1,0 0,0
            programOf n=0?g4; -> 0
            programOf n=1?=7;1=1?=5; -> 1
            gives 1 0 -> -4
            gives 0 1 -> -4
            ticks 1 -> 1
            about 0 7 -> 5
            ticks 1 -> 0
            about 0 7 -> 7
            """);
        PROGRAMS.sentence("A TICK: MOVES of one TICK: the next CUBE's CAN be but behind the first's", """
            cubes 2 9 0,0 0,1 1,0
            programOf 1=1?g0; -> 0
            gives 0 0 -> -4
            gives 1 0 -> -4
            ticks 1 -> 1
            at 1 1 -> 1
            """);
        PROGRAMS.sentence("what that CUBE said a tick ago: not what it says in this TICK, nor what it said earlier", """
            cubes 0 0 0,0 1,0
            programOf t=1?y9; -> 0
            programOf 1=1?=E+W; -> 1
            gives 0 0 -> -4
            gives 1 1 -> -4
            ticks 1 -> 0
            about 0 8 -> 0
            ticks 1 -> 0
            about 0 8 -> 9
            about 1 7 -> 0
            ticks 1 -> 0
            about 0 8 -> 0
            about 1 7 -> 9
            ticks 1 -> 0
            about 1 7 -> 0
            """);
        PROGRAMS.sentence("what that CUBE said: of a lower number, and of a higher one", """
            cubes 0 0 0,0 1,0 2,0
            programOf t=0?y9; -> 0
            programOf 1=1?=W; -> 1
            programOf 1=1?=E; -> 2
            gives 1 0 -> -4
            gives 2 1 -> -4
            gives 0 2 -> -4
            ticks 1 -> 0
            about 0 7 -> 0
            about 2 7 -> 0
            ticks 1 -> 0
            about 0 7 -> 9
            about 2 7 -> 9
            """);
        PROGRAMS.sentence("N E S W: 0: none is there, or it said nothing; n e s w: 0: none is there", """
            cube 0 4 0 0 -> 0
            programOf N=0&E=0&S=0&W=0&n=0&e=0&s=0&w=0?=1; -> 0
            gives 0 0 -> -4
            rule 0 -> 0
            cube 0 5 0 0 -> 1
            rule 0 -> -4
            programOf N=0&E=0&S=0&W=0&e=1?=1; -> 1
            gives 0 1 -> 0
            rule 0 -> 0
            """);
        sides();
        deadOnes();
        sixteenInATick();
        sides();
        deadOnes();
    }

    private static void sides() {
        String[] side = {"e", "n", "w", "s"};
        String[] places = {"4,1 5,1", "4,1 4,2", "4,1 3,1", "4,1 4,0"};
        for (int k = 0; k < 4; k++) {
            String ground = k == 3 ? "cubes 0 0 3,0 3,1\n" : "cubes 0 0 4,0\n";
            int first = k == 3 ? 2 : 1;
            StringBuilder asks = new StringBuilder();
            for (int other = 0; other < 4; other++) {
                int due = other == k || (k == 3 ? other == 2 : other == 3) ? 1 : 0;
                asks.append("programOf ").append(side[other]).append("=1?y0; -> ").append(other).append("\ngives ").append(first)
                        .append(" ").append(other).append("\nrule ").append(first).append(" -> ").append(due == 1 ? 0 : -4).append("\n");
            }
            PROGRAMS.sentence("n e s w: 1 if a CUBE is BESIDE it there: " + side[k], ground + "cubes 0 0 " + places[k] + "\n" + asks);
            StringBuilder hears = new StringBuilder("programOf 1=1?y7; -> 0\ngives " + (first + 1) + " 0 -> -4\nticks 1 -> 0\n");
            for (int other = 0; other < 4; other++) {
                hears.append("programOf ").append(side[other].toUpperCase()).append("=7?y0; -> ").append(other + 1).append("\ngives ")
                        .append(first).append(" ").append(other + 1).append("\nrule ").append(first).append(" -> ")
                        .append(other == k ? 0 : -4).append("\n");
            }
            PROGRAMS.sentence("N E S W: what that CUBE said: " + side[k], ground + "cubes 0 0 " + places[k] + "\n" + hears);
            int last = first + 1;
            PROGRAMS.sentence("DEAD: it is BESIDE others all the same: " + side[k], ground + "cubes 0 0 " + places[k] + "\ndead " + last
                    + " true -> 1\nprogramOf " + side[k] + "=1?y0; -> 0\ngives " + first + " 0 -> -4\nrule " + first + " -> 0");
        }
        PROGRAMS.sentence("n e s w: a free CELL is no CUBE: on each side of one that HANGS", """
            cubes 0 0 4,0 4,1 5,1
            programOf n=0&e=0&s=0&w=1?y0; -> 0
            gives 2 0 -> -4
            rule 2 -> 0
            cube 0 5 0 0 -> 3
            rule 2 -> -4
            programOf n=0&e=0&s=1&w=1?y0; -> 1
            gives 2 1 -> 0
            rule 2 -> 0
            """);
        PROGRAMS.sentence("n e s w: THE GROUND and the grid's borders are no CUBES", """
            cubes 0 0 9,0 9,1 9,2
            programOf e=1?y0;s=1?y1;n=1?y2; -> 0
            gives 0 0 / gives 1 0 / gives 2 0
            rule 0 -> 2
            rule 1 -> 1
            rule 2 -> 1
            cube 0 8 2 0 -> 3
            cube 0 7 2 0 -> 4
            gives 4 0 -> -4
            rule 4 -> 0
            """);
    }

    private static void sixteenInATick() {
        PROGRAMS.sentence("A TICK: of 16 CUBES the first and the last", """
            cubes 0 0 0,0 1,0 2,0 3,0 4,0 5,0 6,0 7,0 8,0 9,0 0,1 1,1 2,1 3,1 4,1
            cube 2 5 1 9 -> 15
            programOf t=0?g0;t=1?=8;1=1?y7; -> 0
            gives 15 0 -> -4
            gives 0 0 -> -4
            ticks 1 -> 1
            about 15 1 -> 6
            about 15 3 -> 7
            about 6 3 -> 1
            ticks 1 -> 0
            about 15 7 -> 8
            about 0 7 -> 8
            ticks 1 -> 0
            about 15 8 -> 7
            about 0 8 -> 7
            rule 15 -> 2
            rule 16 -> -1
            """);
        PROGRAMS.sentence("n e s w N E S W: CUBE 0 counts like others: east, then north", """
            cubes 2 9 1,0 0,0
            programOf 1=1?y6; -> 0
            gives 0 0 -> -4
            ticks 1 -> 0
            programOf e=1&E=6?y0;n=1&N=6?y0; -> 1
            gives 1 1 -> -4
            rule 1 -> 0
            move 5 -> 8
            rule 1 -> 1
            """);
        PROGRAMS.sentence("n e s w N E S W: CUBE 0 counts like others: south, then west", """
            cubes 2 9 0,0 0,1 1,1
            programOf 1=1?y6; -> 0
            gives 0 0 -> -4
            ticks 1 -> 0
            programOf w=1&W=6?y0;s=1&S=6?y0; -> 1
            gives 1 1 -> -4
            rule 1 -> 1
            cube 2 1 0 9 -> 3
            gives 3 1 -> -4
            rule 3 -> 0
            """);
    }

    private static void deadOnes() {
        PROGRAMS.sentence("DEAD: it runs nothing, its MEMORY stays; well again it runs", """
            cube 0 0 0 0 -> 0
            programOf 1=1?=m+1; -> 0
            gives 0 0 -> -4
            ticks 2 -> 0
            dead 0 true -> 1
            ticks 3 -> 0
            about 0 7 -> 2
            dead 0 false -> 1
            ticks 1 -> 0
            about 0 7 -> 3
            """);
        PROGRAMS.sentence("DEAD: it is BESIDE others, and what it said a tick ago is heard once", """
            cubes 0 0 0,0 1,0
            programOf 1=1?y4; -> 0
            programOf 1=1?=W+W+w; -> 1
            gives 0 0 -> -4
            gives 1 1 -> -4
            ticks 1 -> 0
            dead 0 true -> 1
            about 0 8 -> 4
            ticks 1 -> 0
            about 1 7 -> 9
            about 0 8 -> 0
            ticks 1 -> 0
            about 1 7 -> 1
            """);
        PROGRAMS.sentence("DEAD: by g it doesn't go", """
            cube 2 0 0 9 -> 0
            programOf 1=1?g0; -> 0
            gives 0 0 -> -4
            dead 0 true -> 1
            ticks 3 -> 0
            at 0 0 -> 0
            about 0 3 -> 9
            """);
    }

    private static void power() {
        PROGRAMS.sentence("POWER is shared: 2 less is enough, 1 less is not", """
            cube 0 0 0 5 -> 0
            cube 0 1 0 4 -> 1
            ticks 1 -> 0
            about 0 3 -> 5
            about 1 3 -> 4
            charge 1 3 -> 4
            ticks 1 -> 0
            about 0 3 -> 4
            about 1 3 -> 4
            """);
        PROGRAMS.sentence("POWER is shared: fewer still: it gets 1 all the same", """
            cube 0 0 0 999 -> 0
            cube 0 1 0 0 -> 1
            ticks 1 -> 0
            about 0 3 -> 998
            about 1 3 -> 1
            count 2 -> 999
            """);
        PROGRAMS.sentence("POWER is shared: from 0 nothing goes", """
            cubes 0 0 0,0 1,0
            ticks 1 -> 0
            about 0 3 -> 0
            about 1 3 -> 0
            charge 0 1 -> 0
            ticks 1 -> 0
            about 0 3 -> 1
            charge 0 2 -> 1
            ticks 1 -> 0
            about 0 3 -> 1
            about 1 3 -> 1
            """);
        PROGRAMS.sentence("POWER is shared: CUBES by numbers, each as all is then", """
            cubes 0 0 0,0 1,0 2,0
            charge 0 4 -> 0
            ticks 1 -> 0
            about 0 3 -> 3
            about 1 3 -> 1
            about 2 3 -> 0
            ticks 1 -> 0
            about 0 3 -> 2
            about 1 3 -> 1
            about 2 3 -> 1
            """);
        PROGRAMS.sentence("POWER is shared: a higher number gives behind the lower ones", """
            cubes 0 0 2,0 1,0 0,0
            charge 2 4 -> 0
            ticks 1 -> 0
            about 2 3 -> 3
            about 1 3 -> 1
            about 0 3 -> 0
            """);
        PROGRAMS.sentence("POWER is shared: behind all RULES of the TICK", """
            cube 2 0 0 2 -> 0
            cube 2 1 0 0 -> 1
            programOf t=0?=p; -> 0
            gives 0 0 -> -4
            gives 1 0 -> -4
            ticks 1 -> 0
            about 0 7 -> 2
            about 1 7 -> 0
            about 0 3 -> 1
            about 1 3 -> 1
            """);
        PROGRAMS.sentence("POWER is shared in each TICK once", """
            cube 0 0 0 9 -> 0
            cube 0 1 0 0 -> 1
            ticks 3 -> 0
            about 0 3 -> 6
            ticks 50 -> 0
            about 0 3 -> 5
            about 1 3 -> 4
            """);
        whoGetsPower();
    }

    private static void whoGetsPower() {
        // The last one has one on each side: 4 to the east, 6 to the north, 3 to the west, 0 to the south.
        String plus = "cubes 0 0 4,0 3,0 5,0 3,1 5,1 3,2 4,2\ncube 0 4 1 10 -> 7\ndead 1 true\ndead 2 true\ndead 5 true\n";
        String four = "charge 4 %d\ncharge 6 %d\ncharge 3 %d\ncharge 0 %d\nticks 1 -> 0\n";
        int[][] have = {{4, 4, 4, 4}, {5, 4, 4, 4}, {5, 5, 4, 4}, {5, 5, 5, 4}, {4, 5, 5, 5}, {5, 4, 5, 5}, {4, 3, 2, 1}, {8, 9, 9, 9}, {9, 9, 9, 9}};
        int[] gets = {4, 6, 3, 0, 4, 6, 0, 4, -1};
        int[] asked = {4, 6, 3, 0};
        for (int k = 0; k < have.length; k++) {
            StringBuilder told = new StringBuilder(plus);
            told.append(String.format(four, have[k][0], have[k][1], have[k][2], have[k][3]));
            told.append("about 7 3 -> ").append(gets[k] < 0 ? 10 : 9).append("\n");
            for (int i = 0; i < 4; i++) {
                told.append("about ").append(asked[i]).append(" 3 -> ").append(have[k][i] + (gets[k] == asked[i] ? 1 : 0)).append("\n");
            }
            PROGRAMS.sentence("POWER is shared: the one with the least, of several the first of east, north, west, south: "
                    + java.util.Arrays.toString(have[k]), told.toString());
        }
        PROGRAMS.sentence("POWER is shared: DEAD ones get none, the next one does", """
            cubes 0 0 4,0 5,0 3,0
            charge 0 9 -> 0
            dead 1 true -> 1
            ticks 1 -> 0
            about 0 3 -> 8
            about 1 3 -> 0
            about 2 3 -> 1
            dead 2 true -> 1
            ticks 5 -> 0
            about 0 3 -> 8
            """);
        PROGRAMS.sentence("POWER is shared: DEAD ones give none, the one in the middle to neither side", """
            cubes 0 0 4,0 5,0 6,0
            charge 1 9 -> 0
            dead 1 true -> 1
            ticks 5 -> 0
            about 0 3 -> 0
            about 1 3 -> 9
            about 2 3 -> 0
            """);
        PROGRAMS.sentence("POWER is shared: DEAD ones give none", """
            cubes 0 0 4,0 5,0
            charge 0 9 -> 0
            dead 0 true -> 1
            ticks 5 -> 0
            about 0 3 -> 9
            about 1 3 -> 0
            dead 0 false -> 1
            ticks 1 -> 0
            about 1 3 -> 1
            """);
        PROGRAMS.sentence("POWER is shared: CUBE 0 has the least, others that come later in the row have more", """
            cubes 0 0 2,0 1,0 0,0 1,1
            charge 0 1 -> 0
            charge 1 9 -> 0
            charge 2 2 -> 0
            charge 3 3 -> 0
            ticks 1 -> 0
            about 0 3 -> 2
            about 1 3 -> 8
            about 2 3 -> 2
            about 3 3 -> 3
            """);
        String[] corners = {"3,0 4,0 4,1", "5,0 4,0 4,1", "4,0 4,1 3,1", "4,0 4,1 5,1"};
        for (int k = 0; k < 4; k++) {
            PROGRAMS.sentence("POWER is shared with those BESIDE, not by corners: " + corners[k], "cubes 0 0 " + corners[k]
                    + "\ndead 1 true\ncharge 0 9 -> 0\nticks 1 -> 0\nabout 0 3 -> 9\ncharge 0 0 -> 9\ncharge 2 9 -> 0\nticks 1 -> 0\nabout 2 3 -> 9");
        }
        PROGRAMS.sentence("POWER is shared: with those BESIDE alone, not over corners, not over borders", """
            cubes 0 0 9,0 9,1 8,1 9,2 9,3
            charge 0 5 -> 0
            dead 1 true -> 1
            ticks 3 -> 0
            about 0 3 -> 5
            about 2 3 -> 0
            count 2 -> 5
            """);
    }

    public static void main(String[] args) {
        faultsOfTexts();
        program();
        gives();
        rule();
        acts();
        ticks();
        power();
        PROGRAMS.end();
    }
}
