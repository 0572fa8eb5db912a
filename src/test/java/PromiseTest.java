/** One method a promise of DOC.md: ordinary inputs, the edges that it names, wrong inputs. Answers are worked out by hand. */
public final class PromiseTest {
    private static int wrong = 0;
    private static String promise = "";

    private static void due(String call, long got, long want) {
        if (got != want) {
            wrong++;
            System.out.println("promise " + promise + ": " + call + " answered " + got + ", due is " + want);
        }
    }

    private static void text(CubeFolk f, int d, String text) {
        due("row for " + text, f.row(d, 0, text.length()), 0);
        for (int i = 0; i < text.length(); i++) {
            due("put for " + text, f.put(d, i, text.charAt(i)), 0);
        }
    }

    private static int shapeOf(CubeFolk f, String text) {
        text(f, 7, text);
        return f.shape(7);
    }

    private static int programOf(CubeFolk f, String text) {
        text(f, 7, text);
        return f.program(7);
    }

    private static int faultOf(String text, int what) {
        CubeFolk f = new CubeFolk();
        text(f, 0, text);
        return f.fault(0, what);
    }

    /** Cubes of one kind at these places: x, y, x, y and so on. */
    private static CubeFolk folk(int kind, int power, int... places) {
        CubeFolk f = new CubeFolk();
        for (int i = 0; i < places.length; i += 2) {
            due("cube of folk", f.cube(kind, places[i], places[i + 1], power), i / 2);
        }
        return f;
    }

    private static void p1() {
        CubeFolk f = new CubeFolk();
        for (int what = 0; what <= 8; what++) {
            due("count(" + what + ") of a new one", f.count(what), 0);
        }
        due("at(0, 0)", f.at(0, 0), -4);
        due("image()", f.image(), 0);
        due("sum(0)", f.sum(0), -11);
        due("restore() of another new one", new CubeFolk().restore(), -3);
    }

    private static void p2() {
        CubeFolk f = new CubeFolk();
        due("kind -1", f.cube(-1, 0, 0, 0), -1);
        due("kind 4", f.cube(4, 0, 0, 0), -1);
        due("x -1", f.cube(0, -1, 0, 0), -1);
        due("x 10", f.cube(0, 10, 0, 0), -1);
        due("y -1", f.cube(0, 0, -1, 0), -1);
        due("y 8", f.cube(0, 0, 8, 0), -1);
        due("power -1", f.cube(0, 0, 0, -1), -1);
        due("power 1000", f.cube(0, 0, 0, 1000), -1);
        due("the first in the air", f.cube(0, 4, 1, 0), -3);
        due("the first on the ground", f.cube(3, 9, 0, 999), 0);
        due("taken", f.cube(0, 9, 0, 0), -3);
        due("parted, on the ground", f.cube(0, 0, 0, 0), -3);
        due("corner to corner", f.cube(0, 8, 1, 0), -3);
        due("row's end is not the next row's start", f.cube(0, 0, 1, 0), -3);
        for (int y = 1; y <= 7; y++) {
            due("a tower", f.cube(1, 9, y, 0), y);
        }
        for (int y = 7; y >= 0; y--) {
            due("a second one", f.cube(2, 8, y, 0), 15 - y);
        }
        due("a seventeenth", f.cube(0, 7, 0, 0), -2);
        due("a seventeenth, not as told", f.cube(0, 10, 0, 0), -1);
        due("a seventeenth, parted", f.cube(0, 0, 0, 0), -2);
    }

    private static void p3() {
        CubeFolk f = folk(3, 7, 2, 0, 2, 1, 3, 1);
        int[] want = {3, 3, 1, 7, 0, 0, 0, 0, 0, -4, 1};
        for (int what = 0; what <= 10; what++) {
            due("about(2, " + what + ")", f.about(2, what), want[what]);
        }
        due("load", f.about(1, 5), 6);
        due("load of both", f.about(0, 5), 12);
        due("broken", f.about(0, 6), 1);
        due("one on another doesn't hang", f.about(1, 10), 0);
        due("one on the ground doesn't hang", f.about(0, 10), 0);
        due("about(2, 11)", f.about(2, 11), -1);
        due("about(2, -1)", f.about(2, -1), -1);
        due("about(3, 0)", f.about(3, 0), -1);
        due("about(-1, 0)", f.about(-1, 0), -1);
        f.dead(2, true);
        due("dead", f.about(2, 4), 1);
        loads();
    }

    /** A bridge between two towers: what hangs gives to both sides, the odd one to the west. */
    private static void loads() {
        CubeFolk f = new CubeFolk();
        due("west tower", f.cube(0, 0, 0, 0), 0);
        due("west tower, up", f.cube(0, 0, 1, 0), 1);
        due("bridge, west, STRONG", f.cube(1, 1, 1, 0), 2);
        due("bridge, east, PLAIN", f.cube(0, 2, 1, 0), 3);
        due("east tower, up", f.cube(0, 3, 1, 0), 4);
        due("east tower", f.cube(0, 3, 0, 0), 5);
        due("on the bridge", f.cube(2, 1, 2, 0), 6);
        // 6 gives 3 to 2; 2 gives 6: 3 to 3, 3 to 1; 3 gives 5: 2 to 4, 3 back to 2.
        int[] load = {5, 3, 6, 3, 2, 4, 0};
        for (int c = 0; c < load.length; c++) {
            due("load of " + c, f.about(c, 5), load[c]);
        }
        due("2 hangs", f.about(2, 10), 1);
        CubeFolk top = folk(0, 0, 4, 0, 4, 1, 4, 2, 4, 3, 4, 4, 4, 5, 4, 6, 4, 7, 5, 7);
        due("at the top, one hangs", top.about(8, 10), 1);
        due("it gives to the west", top.about(7, 5), 2);
        due("all comes down", top.about(0, 5), 16);
        CubeFolk between = new CubeFolk();
        due("0 is to the east", between.cube(1, 5, 0, 0), 0);
        between.cube(1, 4, 0, 0);
        between.cube(1, 3, 0, 0);
        due("3 up at the east", between.cube(0, 5, 1, 0), 3);
        between.cube(0, 3, 1, 0);
        between.cube(0, 3, 2, 0);
        between.cube(0, 5, 2, 0);
        due("one hangs between", between.cube(1, 4, 2, 0), 7);
        due("half, cut, to the east", between.about(6, 5), 1);
        due("the rest to the west", between.about(5, 5), 2);
        CubeFolk zero = new CubeFolk();
        zero.cube(1, 1, 0, 0);
        zero.cube(0, 1, 1, 0);
        zero.cube(0, 0, 1, 0);
        due("0 and 1 bear what hangs", zero.about(0, 5), 4);
        due("broken", f.broken(), 0);
    }

    private static void p4() {
        CubeFolk f = folk(0, 0, 0, 0, 0, 1);
        due("at(0, 1)", f.at(0, 1), 1);
        due("at(1, 0)", f.at(1, 0), -4);
        due("at(9, 7)", f.at(9, 7), -4);
        due("at(10, 0)", f.at(10, 0), -1);
        due("at(-1, 0)", f.at(-1, 0), -1);
        due("at(0, 8)", f.at(0, 8), -1);
        due("at(0, -1)", f.at(0, -1), -1);
    }

    private static void p5() {
        CubeFolk f = folk(0, 9, 0, 0, 1, 0);
        due("nobody", f.dead(2, true), -1);
        due("well already", f.dead(0, false), 0);
        for (int k = 0; k < 40; k++) {
            due("change " + k, f.dead(0, k % 2 == 0), 1);
        }
        due("change 40", f.dead(0, true), -2);
        due("no change", f.dead(0, false), 0);
        due("no change of one that never was", f.dead(1, false), 0);
        due("it stays well", f.about(0, 4), 0);
        due("nobody still", f.dead(-1, true), -1);
        due("changes", f.count(8), 40);
        due("a dead one holds", deadOneHolds(), 1);
        unchangedWhenTheLogIsFull();
    }

    private static void unchangedWhenTheLogIsFull() {
        CubeFolk f = folk(0, 9, 0, 0, 1, 0);
        f.image();
        for (int k = 0; k < 39; k++) {
            due("change " + k, f.dead(0, k % 2 == 0), 1);
        }
        due("DEAD already, room for one", f.dead(0, true), 0);
        due("the last change", f.dead(1, true), 1);
        due("DEAD already, no room", f.dead(0, true), 0);
        due("the other too", f.dead(1, true), 0);
        due("well again, no room", f.dead(0, false), -2);
        due("it stays DEAD", f.about(0, 4), 1);
        due("nothing was kept", f.count(8), 40);
        f.restore();
        due("well already, THE LOG as it was", f.dead(0, false), 0);
        due("room again", f.dead(0, true), 1);
    }

    private static int deadOneHolds() {
        CubeFolk f = folk(0, 9, 0, 0, 0, 1, 0, 2);
        f.dead(1, true);
        return f.can(8 * 2 + 7) == 0 && f.cube(0, 0, 3, 0) == 3 ? 1 : 0;
    }

    private static void p6() {
        CubeFolk f = folk(0, 9, 0, 0);
        due("charge(0, 999)", f.charge(0, 999), 9);
        due("charge(0, 0)", f.charge(0, 0), 999);
        due("charge(0, 1000)", f.charge(0, 1000), -1);
        due("charge(0, -1)", f.charge(0, -1), -1);
        due("charge(1, 1)", f.charge(1, 1), -1);
        due("power", f.about(0, 3), 0);
    }

    private static void p7() {
        CubeFolk f = folk(0, 9, 0, 0);
        due("no move -1", f.can(-1), -1);
        due("no cube", f.can(8), -1);
        due("alone along the ground", f.can(0), 1);
        due("off the grid", f.can(2), 0);
        due("alone upward", f.can(1), 0);
        due("downward", f.can(3), 0);
        f.charge(0, 2);
        due("less power than its cost", f.can(0), 0);
        f.charge(0, 3);
        due("power of its cost", f.can(0), 1);
        f.dead(0, true);
        due("dead", f.can(0), 0);
        slides();
        turns();
        turnsDown();
        halfASide();
        keepsWhole();
    }

    private static void slides() {
        // A wall at x 1 (0 to 2), one cube beside it at (2, 0), one under the ledge at (1, 2): (2, 2).
        CubeFolk f = folk(2, 9, 1, 0, 1, 1, 1, 2, 2, 0);
        due("up along a wall to its west", f.can(8 * 3 + 1), 1);
        due("away from all", f.can(8 * 3), 0);
        due("into a cube", f.can(8 * 3 + 2), 0);
        CubeFolk g = folk(2, 9, 1, 0, 1, 1, 1, 2, 0, 1);
        due("down along a wall to its east", g.can(8 * 3 + 3), 1);
        due("up along a wall to its east", g.can(8 * 3 + 1), 1);
        due("up, where the wall ends", folk(2, 9, 1, 0, 1, 1, 0, 1).can(8 * 2 + 1), 0);
        // Hanging under a ceiling at y 2: (0..2, 2), on a tower at x 0; 5 hangs at (1, 1).
        CubeFolk h = folk(2, 9, 0, 0, 0, 1, 0, 2, 1, 2, 2, 2, 1, 1);
        due("along a ceiling", h.can(8 * 5), 1);
        CubeFolk top = folk(2, 9, 0, 0, 0, 1, 0, 2, 0, 3, 0, 4, 0, 5, 0, 6, 0, 7);
        due("there is no ceiling above the grid", top.can(8 * 7), 0);
        due("above the grid", top.can(8 * 7 + 1), 0);
        due("a turn above the grid", top.can(8 * 7 + 4), 0);
        CubeFolk half = folk(2, 9, 0, 0, 0, 1, 0, 2, 1, 2, 1, 1);
        due("where the ceiling ends", half.can(8 * 4), 0);
        CubeFolk mixed = folk(2, 9, 0, 0, 0, 1, 1, 1, 2, 1, 2, 0);
        due("the ground below serves for both", mixed.can(8 * 4), 1 - 1);
        due("the ground below, under a roof", mixed.can(8 * 4 + 2), 1);
    }

    /** Cells left and come to must both have something on the same side, though another cube holds at the end. */
    private static void halfASide() {
        int[] arch = {0, 0, 0, 1, 0, 2, 1, 2, 1, 3, 2, 3, 3, 3, 3, 2, 3, 1, 3, 0, 1, 1};
        CubeFolk east = folk(2, 9, arch);
        due("a ceiling over the cell left alone", east.can(8 * 10), 0);
        east.cube(2, 2, 2, 0);
        due("a ceiling over both", east.can(8 * 10), 1);
        int[] mirrored = {3, 0, 3, 1, 3, 2, 2, 2, 2, 3, 1, 3, 0, 3, 0, 2, 0, 1, 0, 0, 2, 1};
        due("the same to the west", folk(2, 9, mirrored).can(8 * 10 + 2), 0);
        int[] floor = {0, 0, 0, 1, 0, 2, 0, 3, 0, 4, 1, 4, 2, 4, 3, 4, 3, 3, 3, 2, 1, 1, 1, 2};
        CubeFolk below = folk(2, 9, floor);
        due("a floor under the cell left alone", below.can(8 * 11), 0);
        below.cube(2, 2, 1, 0);
        due("a floor under both", below.can(8 * 11), 1);
        int[] shaft = {0, 0, 0, 1, 0, 2, 0, 3, 1, 3, 2, 3, 2, 2, 2, 1, 1, 0};
        due("up a shaft from the ground", folk(2, 9, shaft).can(8 * 8 + 1), 1);
        due("up a wall to the west, under a roof", folk(2, 9, 1, 0, 1, 1, 0, 1, 0, 2, 0, 3, 1, 3, 2, 3, 2, 0).can(8 * 7 + 1), 1);
        due("a wall to the west of the cell left alone",
                folk(2, 9, 1, 0, 0, 0, 0, 1, 0, 2, 1, 2, 2, 2, 2, 0).can(8 * 6 + 1), 0);
        due("a wall to the east of the cell left alone",
                folk(2, 9, 1, 0, 2, 0, 2, 1, 2, 2, 1, 2, 0, 2, 0, 0).can(8 * 6 + 1), 0);
    }

    /** South, then west, and south, then east, about the end of a bridge that comes from the other side. */
    private static void turnsDown() {
        due("south, then west", folk(2, 9, 5, 0, 5, 1, 5, 2, 5, 3, 4, 3, 3, 3, 3, 2, 4, 2).can(8 * 7 + 6), 1);
        due("south, then east", folk(2, 9, 3, 0, 3, 1, 3, 2, 3, 3, 4, 3, 5, 3, 5, 2, 4, 2).can(8 * 7 + 7), 1);
        due("south, then west, nothing there", folk(2, 9, 5, 0, 5, 1, 5, 2, 5, 3, 4, 3, 3, 3, 2, 3, 2, 2, 4, 2).can(8 * 8 + 6), 0);
    }

    private static void turns() {
        CubeFolk f = folk(2, 9, 1, 0, 0, 0);
        due("north, then east over a corner", f.can(8 + 4), 1);
        due("north, then west, off the grid", f.can(8 + 5), 0);
        due("north, then west over a corner", f.can(5), 1);
        CubeFolk g = folk(2, 9, 4, 0, 4, 1, 3, 1);
        due("south, then east: the cell come to is taken", g.can(8 * 2 + 7), 0);
        CubeFolk h = folk(2, 9, 4, 0, 4, 1, 5, 1, 3, 1);
        due("south, then west, round a hanging one, parted", h.can(8 * 2 + 6), 0);
        CubeFolk k = folk(2, 9, 0, 0, 0, 1, 0, 2, 1, 2, 2, 2, 3, 2);
        due("south, then west under the one to the west", k.can(8 * 5 + 6), 1);
        CubeFolk blocked = folk(2, 9, 1, 0, 2, 0, 0, 0, 0, 1);
        due("the cell between is taken", blocked.can(8 * 2 + 4), 0);
        due("nothing beside to turn about", folk(2, 9, 0, 0).can(4), 0);
    }

    private static void keepsWhole() {
        CubeFolk f = folk(2, 9, 0, 0, 1, 0, 2, 0);
        due("the middle one can't be missed, though behind it all hang together", f.can(8 + 4), 0);
        CubeFolk g = folk(2, 9, 0, 0, 0, 1);
        due("the only one on the ground", g.can(0), 0);
        due("nor by a turn", g.can(4), 0);
    }

    private static void p8() {
        CubeFolk f = folk(0, 9, 0, 0, 1, 0);
        due("move(4)", f.move(4), 6);
        due("it is there", f.at(1, 1), 0);
        due("it left", f.at(0, 0), -4);
        due("the same again", f.move(4), -3);
        due("power stays", f.about(0, 3), 6);
        due("no such move", f.move(16), -1);
        due("no such move", f.move(-1), -1);
        due("cost of STRONG", folk(1, 4, 0, 0).move(0), 0);
        due("cost of STRONG, too dear", folk(1, 3, 0, 0).move(0), -3);
        due("cost of MOTOR", folk(2, 1, 0, 0).move(0), 0);
        due("cost of PILOT", folk(3, 5, 9, 0).move(2), 4);
    }

    private static void p9() {
        due("none", new CubeFolk().moves(), 0);
        due("alone", folk(0, 9, 4, 0).moves(), 2);
        due("alone, without power", folk(0, 2, 4, 0).moves(), 0);
        due("a pair", folk(0, 9, 4, 0, 5, 0).moves(), 2);
    }

    private static void p10() {
        CubeFolk f = folk(0, 0, 0, 0, 0, 1, 0, 2, 0, 3);
        due("bears 6, load 6", f.broken(), 0);
        f.cube(0, 0, 4, 0);
        due("bears 6, load 8", f.broken(), 1);
        CubeFolk strong = folk(1, 0, 0, 0, 0, 1, 0, 2, 0, 3, 0, 4);
        due("STRONG bears 12", strong.broken(), 0);
        strong.cube(2, 0, 5, 0);
        due("STRONG with 15", strong.broken(), 1);
        due("MOTOR bears 4", folk(2, 0, 0, 0, 0, 1).broken(), 0);
        due("MOTOR with 6", folk(2, 0, 0, 0, 0, 1, 0, 2).broken(), 1);
        due("PILOT with 6", folk(3, 0, 0, 0, 0, 1).broken(), 1);
    }

    private static void p11() {
        CubeFolk f = folk(0, 0, 0, 0);
        due("nothing", f.fault(0, 0), -11);
        f.keep(0, 1, 0);
        due("a cube", f.fault(0, 0), -12);
        f.row(0, 1, 5);
        due("shorts", f.fault(0, 1), -12);
        due("no such shelf", f.fault(8, 0), -1);
        due("no such shelf", f.fault(-1, 0), -1);
        due("neither", f.fault(0, 2), -1);
        due("neither", f.fault(0, -1), -1);
        shapeFaults();
        programFaults();
    }

    private static void shapeFaults() {
        String[] good = {"b0000", "b0097", "o2345", "!b0000", "!!!o0011", "(b0000)", "b0000+o0011-!b1111&(b0022)",
            "((((((b0000))))))", "((b0000)+((b0000)))"};
        for (String text : good) {
            due(text, faultOf(text, 0), -4);
        }
        due("empty", faultOf("", 0), 0);
        due("x0", faultOf("bx", 0), 1);
        due("x0 above 9", faultOf("b:000", 0), 1);
        due("x0 below 0", faultOf("b/000", 0), 1);
        due("x1 above 9", faultOf("b00:0", 0), 3);
        due("y0 8", faultOf("b08", 0), 2);
        due("x1 below x0", faultOf("b504", 0), 3);
        due("y1 below y0", faultOf("b5065", 0), -4);
        due("y1 below y0", faultOf("b5164", 0), -4);
        due("y1 below y0", faultOf("b5160", 0), 4);
        due("y1 8", faultOf("b0008", 0), 4);
        due("too early", faultOf("b000", 0), 4);
        due("too early behind +", faultOf("b0000+", 0), 6);
        due("too early in a bracket", faultOf("(b0000", 0), 6);
        due("a bracket that was never open", faultOf("b0000)", 0), 5);
        due("an empty bracket", faultOf("()", 0), 1);
        due("! behind a part", faultOf("b0000!", 0), 5);
        due("a blank", faultOf("b0000 ", 0), 5);
        due("7 deep", faultOf("(((((((b0000)))))))", 0), 6);
        due("7 deep, behind !", faultOf("!(!(!(!(!(!(!(b0000)))))))", 0), 13);
        due("two operators", faultOf("b0000+-b0000", 0), 6);
        due("a program", faultOf("n=0?g0;", 0), 0);
        due("89 times ! and too early", faultOf("!".repeat(90), 0), 90);
        due("85 times !", faultOf("!".repeat(85) + "b0000", 0), -4);
    }

    private static void programFaults() {
        String rule = "1=1?g7;";
        String[] good = {rule, rule.repeat(6), "n+e-s=w&N<E&S>W?yp+t-m;", "0<10?=99-n+5;", "p=0-5?y0;"};
        for (String text : good) {
            due(text, faultOf(text, 1), -4);
        }
        due("empty", faultOf("", 1), 0);
        due("7 rules", faultOf(rule.repeat(7), 1), 42);
        due("0 ahead of another", faultOf("1=01?g0;", 1), 3);
        due("3 digits", faultOf("100=1?g0;", 1), 2);
        due("no comparison", faultOf("1?g0;", 1), 1);
        due("two comparisons", faultOf("1=1=1?g0;", 1), 3);
        due("way 8", faultOf("1=1?g8;", 1), 5);
        due("no act", faultOf("1=1?;", 1), 4);
        due("no such act", faultOf("1=1?x;", 1), 4);
        due("too early", faultOf("1=1?g0", 1), 6);
        due("too early in the second", faultOf(rule + "1", 1), 8);
        due("no such field", faultOf("x", 1), 0);
        due("a sign ahead", faultOf("-1=1?g0;", 1), 0);
        due("and without a check", faultOf("1=1&?g0;", 1), 4);
        due("an act goes on", faultOf("1=1?g01;", 1), 6);
        due("no sum", faultOf("1=1?y;", 1), 5);
        due("; twice", faultOf("1=1?g0;;", 1), 7);
        CubeFolk f = new CubeFolk();
        text(f, 0, rule);
        f.put(0, 0, '1' - 256);
        due("bytes keep their lowest bits", f.fault(0, 1), -4);
        f.put(0, 0, -1);
        due("a byte below 0", f.fault(0, 1), 0);
    }

    private static void p12() {
        CubeFolk f = folk(0, 0, 0, 0);
        due("no such shelf", f.shape(8), -1);
        due("nothing", f.shape(0), -11);
        f.row(1, 2, 3);
        due("ints", f.shape(1), -12);
        due("faulty", shapeOf(f, "b0000+x"), -106);
        due("faulty from the start", shapeOf(f, ""), -100);
        for (int s = 0; s < 8; s++) {
            due("a shape", shapeOf(f, "b0000"), s);
        }
        due("a ninth", shapeOf(f, "b0000"), -2);
        due("a ninth, of nothing", f.shape(0), -2);
        due("a ninth, of no shelf", f.shape(-1), -1);
        due("shapes", f.count(3), 8);
    }

    private static void p13() {
        CubeFolk f = new CubeFolk();
        due("no shape", f.in(0, 0, 0), -1);
        due("not, from the left", shapeOf(f, "b0095-b2244+b3355&!o3355"), 0);
        due("left over", f.in(0, 0, 0), 1);
        due("taken out", f.in(0, 2, 2), 0);
        due("put in again", f.in(0, 4, 4), 1);
        due("left free by the border", f.in(0, 3, 3), 0);
        due("above", f.in(0, 0, 6), 0);
        due("a border", shapeOf(f, "o2468"), -105 + 1);
        due("a border", shapeOf(f, "o2467"), 1);
        due("its corner", f.in(1, 2, 4), 1);
        due("its top", f.in(1, 4, 7), 1);
        due("within", f.in(1, 4, 5), 0);
        due("outside", f.in(1, 7, 7), 0);
        due("not of all", shapeOf(f, "!b0097"), 2);
        due("in nothing", f.in(2, 5, 5), 0);
        due("! is of its part alone", shapeOf(f, "!b0000+b0000"), 3);
        due("so it is in", f.in(3, 0, 0), 1);
        due("! of a bracket", shapeOf(f, "!(b0000+b1111)"), 4);
        due("so it isn't", f.in(4, 1, 1), 0);
        due("but this is", f.in(4, 9, 7), 1);
        due("x 10", f.in(0, 10, 0), -1);
        due("y 8", f.in(0, 0, 8), -1);
        due("x -1", f.in(0, -1, 0), -1);
        due("y -1", f.in(0, 0, -1), -1);
        due("shape 5", f.in(5, 0, 0), -1);
        due("shape -1", f.in(-1, 0, 0), -1);
    }

    private static void p14() {
        CubeFolk f = folk(0, 0, 0, 0, 1, 0, 1, 1);
        due("a shape", shapeOf(f, "b0020"), 0);
        due("cells", f.met(0, 0), 3);
        due("empty", f.met(0, 1), 1);
        due("outside", f.met(0, 2), 1);
        due("not met", f.met(0, 3), 0);
        due("its own", shapeOf(f, "b0010+b1111"), 1);
        due("met", f.met(1, 3), 1);
        due("more", shapeOf(f, "b0011"), 2);
        due("not met by fewer", f.met(2, 3), 0);
        due("less", shapeOf(f, "b0010"), 3);
        due("not met by more", f.met(3, 3), 0);
        due("all", shapeOf(f, "b0097"), 4);
        due("all cells", f.met(4, 0), 80);
        due("what 4", f.met(0, 4), -1);
        due("what -1", f.met(0, -1), -1);
        due("shape 5", f.met(5, 0), -1);
        CubeFolk none = new CubeFolk();
        due("an empty shape", shapeOf(none, "b0000-b0000"), 0);
        due("met by none", none.met(0, 3), 1);
    }

    private static void p15() {
        CubeFolk f = folk(0, 20, 0, 0, 1, 0, 2, 0);
        due("turned", shapeOf(f, "b1020+b1111"), 0);
        due("too few moves", f.plan(0, 0), -4);
        due("one", f.plan(0, 1), 1);
        due("one of four", f.plan(0, 4), 1);
        due("one further", shapeOf(f, "b1020+b2121"), 1);
        due("two", f.plan(1, 4), 2);
        due("n 5", f.plan(0, 5), -1);
        due("n -1", f.plan(0, -1), -1);
        due("no shape", f.plan(2, 1), -1);
        due("other number of cells", shapeOf(f, "b0010"), 2);
        due("never", f.plan(2, 4), -4);
        due("all one to the east", shapeOf(f, "b1030"), 3);
        due("no turn leads down over a corner", f.plan(3, 4), -4);
        f.charge(0, 5);
        due("not with power for one alone", f.plan(1, 4), -4);
        f.charge(0, 6);
        due("with power for two", f.plan(1, 4), 2);
        due("nothing moved", f.at(0, 0), 0);
        due("no power went", f.about(0, 3), 6);
        ninthStays();
    }

    private static void ninthStays() {
        CubeFolk f = folk(2, 9, 0, 0, 1, 0, 2, 0, 3, 0, 4, 0, 5, 0, 6, 0, 7, 0, 8, 0);
        due("the ninth turned", shapeOf(f, "b0070+b7171"), 0);
        due("isn't planned", f.plan(0, 1), -4);
        due("though it can", f.move(8 * 8 + 5), 8);
        due("and then it's met", f.plan(0, 0), 0);
    }

    private static void p16() {
        CubeFolk f = folk(0, 20, 0, 0, 1, 0, 2, 0);
        shapeOf(f, "b1020+b2121");
        due("first", f.planned(0, 4, 0), 4);
        due("second", f.planned(0, 4, 1), 0);
        due("third", f.planned(0, 4, 2), -4);
        due("far", f.planned(0, 4, 99), -4);
        due("too few", f.planned(0, 1, 0), -4);
        due("i -1", f.planned(0, 4, -1), -1);
        due("n 5", f.planned(0, 5, 0), -1);
        due("n -1", f.planned(0, -1, 0), -1);
        due("no shape", f.planned(1, 4, 0), -1);
        CubeFolk g = folk(0, 20, 1, 0, 0, 0, 2, 0);
        shapeOf(g, "b0010+b0101");
        due("two could: the least", g.planned(0, 1, 0), -4);
        shapeOf(g, "b0010+b1111");
        due("by the one that can", g.planned(1, 1, 0), 8 * 2 + 5);
        CubeFolk h = folk(0, 20, 0, 0, 1, 0, 0, 1, 1, 1);
        shapeOf(h, "b0010+b0101+b0202");
        due("either up there: north, then west", h.planned(0, 1, 0), 8 * 3 + 5);
        shapeOf(h, "b0020+b0101");
        due("down east: south, then east can't be", h.plan(1, 1), -4);
    }

    private static void p17() {
        CubeFolk f = folk(0, 6, 0, 0, 1, 0);
        due("nothing", f.judge(0), -11);
        f.row(0, 0, 1);
        due("bytes", f.judge(0), -12);
        f.keep(0, 1, 0);
        due("a cube", f.judge(0), -12);
        due("no shelf", f.judge(8), -1);
        f.row(0, 1, 0);
        due("no moves", f.judge(0), -4);
        f.row(0, 1, 3);
        f.put(0, 0, 4);
        f.put(0, 1, 7);
        f.put(0, 2, 2);
        due("over, but not down: the cell left has nothing below", f.judge(0), 1);
        f.put(0, 1, 16);
        due("no such move", f.judge(0), 1);
        f.put(0, 0, -1);
        due("no move at all", f.judge(0), 0);
        f.put(0, 0, 4);
        f.put(0, 1, 8);
        due("the one below leaves", f.judge(0), 1);
        due("nothing moves", f.at(0, 0), 0);
        CubeFolk alone = folk(0, 6, 0, 0);
        alone.row(0, 1, 3);
        due("three slides, power for two", alone.judge(0), 2);
        due("nor is power taken", alone.about(0, 3), 6);
        CubeFolk ninth = folk(2, 9, 0, 0, 1, 0, 2, 0, 3, 0, 4, 0, 5, 0, 6, 0, 7, 0, 8, 0);
        ninth.row(0, 1, 1);
        ninth.put(0, 0, 8 * 8 + 5);
        due("the ninth is judged too", ninth.judge(0), -4);
    }

    private static void p18() {
        CubeFolk f = folk(0, 0, 0, 0);
        due("no shelf", f.program(-1), -1);
        due("nothing", f.program(0), -11);
        f.row(1, 1, 3);
        due("shorts", f.program(1), -12);
        due("faulty", programOf(f, "1=1?g9;"), -105);
        for (int p = 0; p < 8; p++) {
            due("a program", programOf(f, "1=1?g0;"), p);
        }
        due("a ninth", programOf(f, "1=1?g0;"), -2);
        due("a ninth, of nothing", f.program(0), -2);
        due("a ninth, of no shelf", f.program(8), -1);
        due("programs", f.count(4), 8);
    }

    private static void p19() {
        CubeFolk f = folk(0, 0, 0, 0);
        due("no program", f.gives(0, 0), -1);
        due("none", f.gives(0, -1), -4);
        programOf(f, "1=1?g0;");
        programOf(f, "1=1?g0;");
        due("the second", f.gives(0, 1), -4);
        due("the first", f.gives(0, 0), 1);
        due("about", f.about(0, 9), 0);
        due("none again", f.gives(0, -1), 0);
        due("about", f.about(0, 9), -4);
        due("-2", f.gives(0, -2), -1);
        due("2", f.gives(0, 2), -1);
        due("nobody", f.gives(1, 0), -1);
    }

    private static void p20() {
        CubeFolk f = folk(0, 12, 4, 0, 5, 0, 4, 1);
        due("nobody", f.rule(3), -1);
        due("no program", f.rule(0), -3);
        due("a program", programOf(f, "n=0?y1;e+n=2&w=0?y2;1=1?y3;"), 0);
        f.gives(0, 0);
        f.gives(1, 0);
        due("one to the north and east", f.rule(0), 1);
        due("none to the north", f.rule(1), 0);
        f.dead(0, true);
        due("dead", f.rule(0), -3);
        f.dead(0, false);
        programOf(f, "p<12?y0;p>12?y0;p=12&s=1?y0;t>0?y0;m>0?y0;p-2-3<6?y0;");
        f.gives(0, 1);
        due("from none", f.rule(0), -4);
        f.charge(0, 10);
        due("power 10", f.rule(0), 0);
        f.charge(0, 99);
        due("power 99", f.rule(0), 1);
        programOf(f, "9-5-4=0&10-1+2=11?y0;");
        f.gives(0, 2);
        due("from the left", f.rule(0), 0);
        due("the other stays with its own", f.rule(1), 0);
    }

    private static void p21() {
        CubeFolk f = folk(2, 9, 0, 0);
        due("0", f.ticks(0), -1);
        due("51", f.ticks(51), -1);
        due("-1", f.ticks(-1), -1);
        programOf(f, "t<3?g0;m<5?=m-1+2;1=1?y0-1;");
        f.gives(0, 0);
        due("three moves", f.ticks(5), 3);
        due("x", f.about(0, 1), 3);
        due("power", f.about(0, 3), 6);
        due("memory", f.about(0, 7), 2);
        due("four more, one of them says", f.ticks(4), 0);
        due("memory", f.about(0, 7), 5);
        due("said, modulo 100", f.about(0, 8), 99);
        f.gives(0, -1);
        due("one more: says nothing", f.ticks(1), 0);
        due("said nothing", f.about(0, 8), 0);
        for (int k = 0; k < 39; k++) {
            due("fifty more", f.ticks(50), 0);
        }
        due("beyond 2000", f.ticks(41), -2);
        due("to 2000", f.ticks(40), 0);
        due("at 2000", f.ticks(1), -2);
        due("not as told", f.ticks(0), -1);
        due("ticks", f.count(6), 2000);
        neighbours();
        sides();
        sharing();
    }

    /** What is said is heard a tick later; moves and memory of this tick are seen at once. */
    private static void neighbours() {
        CubeFolk f = folk(0, 0, 4, 0, 5, 0, 4, 1, 3, 0);
        programOf(f, "1=1?yt+5;");
        programOf(f, "1=1?=N+E+S+W;");
        f.gives(1, 0);
        f.gives(2, 0);
        f.gives(0, 1);
        f.ticks(1);
        due("not heard yet", f.about(0, 7), 0);
        due("said", f.about(1, 8), 5);
        f.ticks(1);
        due("heard from two", f.about(0, 7), 10);
        f.dead(1, true);
        f.ticks(1);
        due("what the dead one said a tick ago", f.about(0, 7), 12);
        f.ticks(1);
        due("the dead one says no more", f.about(0, 7), 7);
        CubeFolk g = folk(2, 9, 0, 0, 1, 0);
        programOf(g, "n=0?g4;");
        programOf(g, "n=1?=7;");
        g.gives(0, 0);
        g.gives(1, 1);
        due("the first turns over the second", g.ticks(1), 1);
        due("and the second has it to the north", g.about(1, 7), 7);
    }

    /** Each side by itself, and CUBE 0 on each: what it said, and that it is there. */
    private static void sides() {
        int[][] places = {{5, 0, 4, 0}, {4, 1, 4, 0}, {3, 0, 4, 0}, {4, 0, 4, 1}};
        for (int side = 0; side < 4; side++) {
            CubeFolk f = new CubeFolk();
            boolean onTop = side == 1;
            int zero = onTop ? 1 : 0;
            f.cube(0, places[side][onTop ? 2 : 0], places[side][onTop ? 3 : 1], 0);
            f.cube(0, places[side][onTop ? 0 : 2], places[side][onTop ? 1 : 3], 0);
            programOf(f, "1=1?y7;");
            for (int k = 0; k < 4; k++) {
                programOf(f, "ENWS".charAt(k) + "=7&" + "enws".charAt(k) + "=1?=9;");
            }
            f.gives(zero, 0);
            for (int k = 0; k < 4; k++) {
                f.gives(1 - zero, k + 1);
                f.ticks(2);
                due("side " + side + " asked at " + k, f.about(1 - zero, 7), k >= side ? 9 : 0);
            }
        }
    }

    private static void sharing() {
        CubeFolk f = folk(0, 0, 4, 0, 5, 0, 4, 1, 3, 0);
        f.charge(0, 4);
        f.ticks(1);
        due("to the east first", f.about(1, 3), 1);
        f.ticks(1);
        due("then to the north", f.about(2, 3), 1);
        f.ticks(1);
        due("1 less is no 2 less, to the west it's 2", f.about(3, 3), 1);
        f.ticks(1);
        due("all alike", f.about(0, 3), 1);
        CubeFolk g = folk(0, 0, 4, 0, 5, 0, 4, 1, 3, 0);
        g.charge(0, 4);
        g.dead(1, true);
        g.ticks(1);
        due("a dead one gets none", g.about(1, 3), 0);
        due("the next does", g.about(2, 3), 1);
        g.dead(0, true);
        g.ticks(5);
        due("a dead one gives none", g.about(0, 3), 3);
    }

    private static void p22() {
        CubeFolk f = folk(0, 0, 0, 0);
        due("tick 1 is to come", f.report(0, 1, true), -1);
        due("tick -1", f.report(0, -1, true), -1);
        due("nobody", f.report(1, 0, true), -1);
        for (int k = 0; k < 40; k++) {
            due("report", f.report(0, 0, k % 2 == 0), k);
        }
        due("one more", f.report(0, 0, true), -2);
        due("one more, not as told", f.report(0, 1, true), -1);
        due("reports", f.count(5), 40);
        due("it changes only what was believed", f.about(0, 4), 0);
    }

    private static void p23() {
        CubeFolk f = folk(0, 0, 0, 0, 1, 0);
        f.ticks(6);
        due("well without a report", f.believed(0, 6, -1), 0);
        f.report(0, 4, true);
        f.report(0, 2, false);
        f.report(0, 2, true);
        f.report(0, 4, false);
        due("before all", f.believed(0, 1, -1), 0);
        due("in 2, the last one told", f.believed(0, 2, -1), 1);
        due("in 2, by two", f.believed(0, 2, 2), 0);
        due("in 3, by three", f.believed(0, 3, 3), 1);
        due("in 4, by three: the later tick", f.believed(0, 4, 3), 1);
        due("in 5, by all", f.believed(0, 5, -1), 0);
        due("by none", f.believed(0, 5, 0), 0);
        due("another one", f.believed(1, 5, -1), 0);
        due("by five", f.believed(0, 5, 5), -1);
        due("by -2", f.believed(0, 5, -2), -1);
        due("in 7", f.believed(0, 7, -1), -1);
        due("in -1", f.believed(0, -1, -1), -1);
        due("nobody", f.believed(2, 0, -1), -1);
    }

    private static void p24() {
        CubeFolk f = folk(0, 0, 0, 0, 1, 0);
        due("no ticks", f.wrong(0, -1), 0);
        f.dead(0, true);
        due("none has gone by", f.wrong(0, -1), 0);
        f.ticks(2);
        f.dead(0, false);
        f.dead(0, true);
        f.dead(0, false);
        f.ticks(3);
        due("two", f.wrong(0, 0), 2);
        f.report(0, 1, true);
        due("one", f.wrong(0, 1), 4);
        f.report(0, 2, false);
        due("the first", f.wrong(0, -1), 1);
        f.report(0, 0, true);
        due("none", f.wrong(0, -1), 0);
        due("by two", f.wrong(0, 2), 1);
        f.report(0, 5, true);
        due("in the tick that is now", f.wrong(0, -1), 0);
        due("another", f.wrong(1, -1), 0);
        due("nobody", f.wrong(2, -1), -1);
        due("by 5", f.wrong(0, 5), -1);
        due("by -2", f.wrong(0, -2), -1);
    }

    private static void p25() {
        CubeFolk f = folk(0, 9, 0, 0);
        f.ticks(7);
        due("image", f.image(), 7);
        due("what is stays", f.count(6), 7);
        f.ticks(3);
        due("another image", f.image(), 10);
        due("is the one restored", f.restore(), 10);
    }

    private static void p26() {
        CubeFolk f = folk(2, 9, 0, 0);
        due("none", f.restore(), -3);
        programOf(f, "1=1?y5;");
        f.gives(0, 0);
        f.ticks(1);
        f.dead(0, true);
        f.dead(0, false);
        f.report(0, 0, true);
        shapeOf(f, "b0000");
        f.image();
        programOf(f, "1=1?=8;");
        f.gives(0, 1);
        f.ticks(4);
        f.cube(1, 0, 1, 3);
        f.cube(1, 1, 0, 3);
        f.keep(0, 1, 1);
        f.move(8 + 4);
        f.dead(0, true);
        f.report(0, 0, false);
        shapeOf(f, "b0010");
        for (int times = 0; times < 2; times++) {
            due("restored", f.restore(), 1);
            int[] want = {1, 0, 9, 1, 1, 1, 1, 3, 2};
            for (int what = 0; what <= 8; what++) {
                due("count(" + what + ")", f.count(what), want[what]);
            }
            due("memory", f.about(0, 7), 0);
            due("said", f.about(0, 8), 5);
            due("program", f.about(0, 9), 0);
            due("cells are free again", f.at(0, 1) + f.at(1, 0) + f.at(1, 1), -12);
            due("believed", f.believed(0, 1, -1), 1);
            due("shape", f.met(0, 3), 1);
            due("no second shape", f.met(1, 3), -1);
            due("shelves stay", f.sum(0), 165);
            f.ticks(2);
        }
        due("the program is the old one", f.about(0, 8), 5);
    }

    private static void p27() {
        CubeFolk f = new CubeFolk();
        for (int kind = 0; kind < 4; kind++) {
            f.cube(kind, kind, 0, 10 + kind);
        }
        f.dead(1, true);
        f.dead(2, true);
        f.dead(2, false);
        f.ticks(1);
        f.report(0, 1, true);
        shapeOf(f, "b0000");
        programOf(f, "1=1?y5;");
        int[] want = {4, 1, 46, 1, 1, 1, 1, 14, 3};
        for (int what = 0; what <= 8; what++) {
            due("count(" + what + ")", f.count(what), want[what]);
        }
        due("count(9)", f.count(9), -1);
        due("count(-1)", f.count(-1), -1);
    }

    private static void p28() {
        CubeFolk f = folk(2, 9, 3, 0);
        due("a cube", f.keep(0, 1, 0), 0);
        f.charge(0, 50);
        f.move(0);
        f.dead(0, true);
        due("as then: sum", f.sum(0), 117);
        due("as then: toss", f.toss(0), 24);
        due("nothing, whatever k is", f.keep(0, 0, 99), 0);
        due("nothing", f.sum(0), -11);
        due("no cube 1", f.keep(0, 1, 1), -1);
        due("no cube -1", f.keep(0, 1, -1), -1);
        due("what 2", f.keep(0, 2, 0), -1);
        due("what -1", f.keep(0, -1, 0), -1);
        due("shelf 8", f.keep(8, 0, 0), -1);
        due("shelf -1", f.keep(-1, 1, 0), -1);
        f.keep(1, 1, 0);
        due("a refusal changes nothing", f.keep(1, 1, 7), -1);
        due("it holds still", f.toss(1), -15);
    }

    private static void p29() {
        CubeFolk f = new CubeFolk();
        due("90", f.row(0, 0, 90), 0);
        f.put(0, 89, 5);
        due("91", f.row(0, 0, 91), -1);
        due("-1", f.row(0, 2, -1), -14);
        due("it holds still", element(f, 0, 89), 5);
        due("again", f.row(0, 0, 90), 0);
        due("0 at first", element(f, 0, 89), 0);
        due("sort 3", f.row(0, 3, 1), -1);
        due("sort -1", f.row(0, -1, -1), -1);
        due("shelf 8", f.row(8, 0, -1), -1);
        due("none", f.row(1, 2, 0), 0);
        due("no place", f.put(1, 0, 0), -13);
    }

    private static void p30() {
        CubeFolk f = folk(0, 0, 0, 0);
        due("nothing", f.put(0, 0, 0), -11);
        f.keep(0, 1, 0);
        due("a cube", f.put(0, 0, 0), -12);
        due("no shelf", f.put(8, 0, 0), -1);
        for (int sort = 0; sort < 3; sort++) {
            f.row(sort, sort, 2);
            due("put", f.put(sort, 1, 0x12348765), 0);
            due("put at 2", f.put(sort, 2, 1), -13);
            due("put at -1", f.put(sort, -1, 1), -13);
        }
        due("a byte", element(f, 0, 1), 0x65);
        due("a short", element(f, 1, 1), (short) 0x8765);
        due("an int", element(f, 2, 1), 0x12348765);
        f.put(0, 0, 200);
        due("a byte below 0", element(f, 0, 0), -56);
        f.put(2, 0, Integer.MIN_VALUE);
        due("an int below 0", element(f, 2, 0), Integer.MIN_VALUE);
    }

    /** What element answers; 1000001 for an IllegalArgumentException, 1000002 for an IllegalStateException. */
    private static long element(CubeFolk f, int d, int i) {
        try {
            return f.element(d, i);
        } catch (IllegalArgumentException e) {
            return 1000001;
        } catch (IllegalStateException e) {
            return 1000002;
        }
    }

    private static void p31() {
        CubeFolk f = folk(0, 0, 0, 0);
        due("shelf 8", element(f, 8, 0), 1000001);
        due("shelf -1", element(f, -1, 0), 1000001);
        due("nothing", element(f, 0, 0), 1000002);
        f.keep(0, 1, 0);
        due("a cube", element(f, 0, 0), 1000002);
        f.row(0, 2, 3);
        due("0 at first", element(f, 0, 2), 0);
        due("place 3", element(f, 0, 3), 1000002);
        due("place -1", element(f, 0, -1), 1000002);
    }

    private static void p32() {
        CubeFolk f = folk(0, 0, 0, 0);
        f.row(0, 2, 5);
        for (int i = 0; i < 5; i++) f.put(0, i, 10 + i);
        f.row(1, 2, 3);
        f.row(2, 1, 3);
        f.keep(3, 1, 0);
        due("three", f.copy(0, 1, 1, 0, 3), 3);
        due("the last", element(f, 1, 2), 13);
        due("within one", f.copy(0, 0, 0, 1, 4), 4);
        for (int i = 1; i < 5; i++) due("moved on", element(f, 0, i), 9 + i);
        due("none at the end", f.copy(0, 5, 1, 3, 0), 0);
        due("beyond the end", f.copy(0, 6, 1, 0, 0), -13);
        due("too many", f.copy(0, 3, 1, 0, 3), -13);
        due("no room for them", f.copy(0, 0, 1, 1, 3), -13);
        due("from -1", f.copy(0, -1, 1, 0, 1), -13);
        due("to -1", f.copy(0, 0, 1, -1, 1), -13);
        due("less than none", f.copy(0, 0, 1, 0, -1), -13);
        due("very many", f.copy(0, 1, 1, 0, Integer.MAX_VALUE), -13);
        due("other sorts", f.copy(0, 0, 2, 0, 99), -12);
        due("a cube", f.copy(3, 0, 0, 0, 1), -12);
        due("two cubes", f.copy(3, 0, 3, 0, 1), -12);
        due("a cube to nothing", f.copy(3, 0, 4, 0, 1), -11);
        due("nothing", f.copy(4, 0, 0, 0, 1), -11);
        due("no shelf", f.copy(4, 0, 8, 0, 1), -1);
        due("no shelf", f.copy(-1, 0, 0, 0, 1), -1);
    }

    private static void p33() {
        CubeFolk f = new CubeFolk();
        int[] want = {108, 165, 117, 236};
        for (int kind = 0; kind < 4; kind++) {
            f.cube(kind, kind, 0, 9);
            f.keep(kind, 1, kind);
            due("sum of kind " + kind, f.sum(kind), want[kind]);
        }
        due("nothing", f.sum(4), -11);
        f.row(4, 0, 1);
        due("a row", f.sum(4), -12);
        due("no shelf", f.sum(8), -1);
        due("no shelf", f.sum(-1), -1);
    }

    private static void p34() {
        CubeFolk f = new CubeFolk();
        int[] want = {-15, 9, 17, 125};
        for (int kind = 0; kind < 4; kind++) {
            f.cube(0, kind, 0, 0);
        }
        for (int kind = 0; kind < 4; kind++) {
            int c = f.cube(kind, kind, 1, 0);
            f.keep(kind, 1, c);
            due("toss of kind " + kind, f.toss(kind), want[kind]);
            f.dead(c, true);
            due("it was well then", f.toss(kind), want[kind]);
            f.keep(kind, 1, c);
            due("a dead one", f.toss(kind), -15);
            f.dead(c, false);
            due("it was dead then", f.toss(kind), -15);
        }
        due("nothing", f.toss(4), -11);
        f.row(4, 2, 1);
        due("a row", f.toss(4), -12);
        due("no shelf", f.toss(8), -1);
        due("no shelf", f.toss(-1), -1);
    }

    private static final Runnable[] PROMISES = {PromiseTest::p1, PromiseTest::p2, PromiseTest::p3, PromiseTest::p4, PromiseTest::p5,
        PromiseTest::p6, PromiseTest::p7, PromiseTest::p8, PromiseTest::p9, PromiseTest::p10, PromiseTest::p11, PromiseTest::p12,
        PromiseTest::p13, PromiseTest::p14, PromiseTest::p15, PromiseTest::p16, PromiseTest::p17, PromiseTest::p18, PromiseTest::p19,
        PromiseTest::p20, PromiseTest::p21, PromiseTest::p22, PromiseTest::p23, PromiseTest::p24, PromiseTest::p25, PromiseTest::p26,
        PromiseTest::p27, PromiseTest::p28, PromiseTest::p29, PromiseTest::p30, PromiseTest::p31, PromiseTest::p32, PromiseTest::p33,
        PromiseTest::p34};

    public static void main(String[] args) {
        for (int k = 0; k < PROMISES.length; k++) {
            promise = String.valueOf(k + 1);
            PROMISES[k].run();
        }
        System.out.println(wrong == 0 ? "all promises hold" : wrong + " answers are not as due");
        if (wrong != 0) System.exit(1);
    }
}
