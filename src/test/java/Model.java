import java.util.ArrayList;
import java.util.HashMap;
import java.util.HashSet;
import java.util.List;
import java.util.Map;
import java.util.Set;
import java.util.regex.Matcher;
import java.util.regex.Pattern;

/**
 * The document read a second time, as slowly and as differently from CubeFolk as it can be: sets of
 * points, regular expressions, searches without any bound but the document's. ModelTest compares.
 */
final class Model {
    record Point(int x, int y) {
        Point plus(int dx, int dy) {
            return new Point(x + dx, y + dy);
        }
    }

    static final class Cube {
        int kind, power, memory, said, heard;
        int program = -1;
        boolean dead;
        Point at;

        Cube copy() {
            Cube c = new Cube();
            c.kind = kind;
            c.power = power;
            c.memory = memory;
            c.said = said;
            c.heard = heard;
            c.program = program;
            c.dead = dead;
            c.at = at;
            return c;
        }

        int weight() {
            return switch (kind) { case 0 -> 2; case 1 -> 2 + 1; case 2 -> 2 + 1; default -> 2 * (2 + 1); };
        }

        int bears() {
            return switch (kind) { case 0 -> 6; case 1 -> 2 * 6; case 2 -> 6 - 2; default -> (6 - 2) / 2; };
        }

        int cost() {
            return switch (kind) { case 0 -> 3; case 1 -> 3 + 1; default -> 3 - 2; };
        }
    }

    record Note(int cube, int tick, boolean dead) {
    }

    static final class State {
        List<Cube> cubes = new ArrayList<>();
        int ticks;
        List<Set<Point>> shapes = new ArrayList<>();
        List<String> programs = new ArrayList<>();
        List<Note> reports = new ArrayList<>();
        List<Note> log = new ArrayList<>();

        State copy() {
            State s = new State();
            for (Cube c : cubes) {
                s.cubes.add(c.copy());
            }
            s.ticks = ticks;
            s.shapes.addAll(shapes);
            s.programs.addAll(programs);
            s.reports.addAll(reports);
            s.log.addAll(log);
            return s;
        }
    }

    State now = new State();
    State image;
    /** null, a Cube, a byte[], a short[] or an int[]. */
    final Object[] shelves = new Object[8];

    static boolean inGrid(Point p) {
        return p.x >= 0 && p.x <= 9 && p.y >= 0 && p.y <= 7;
    }

    boolean isCube(int c) {
        return c >= 0 && c < now.cubes.size();
    }

    static Map<Point, Integer> places(State s) {
        Map<Point, Integer> m = new HashMap<>();
        for (int i = 0; i < s.cubes.size(); i++) {
            m.put(s.cubes.get(i).at, i);
        }
        return m;
    }

    static boolean whole(Set<Point> points) {
        if (points.isEmpty()) {
            return true;
        }
        Set<Point> seen = new HashSet<>();
        List<Point> todo = new ArrayList<>(List.of(points.iterator().next()));
        while (!todo.isEmpty()) {
            Point p = todo.remove(todo.size() - 1);
            if (points.contains(p) && seen.add(p)) {
                todo.addAll(List.of(p.plus(0, 1), p.plus(0, -1), p.plus(1, 0), p.plus(-1, 0)));
            }
        }
        return seen.size() == points.size() && points.stream().anyMatch(p -> p.y == 0);
    }

    int cube(int kind, int x, int y, int power) {
        Point p = new Point(x, y);
        if (kind < 0 || kind > 3 || !inGrid(p) || power < 0 || power > 999) return -1;
        if (now.cubes.size() == 16) return -2;
        Set<Point> all = new HashSet<>(places(now).keySet());
        if (!all.add(p) || !whole(all)) return -3;
        Cube c = new Cube();
        c.kind = kind;
        c.at = p;
        c.power = power;
        now.cubes.add(c);
        return now.cubes.size() - 1;
    }

    static boolean hangs(State s, int c) {
        Point p = s.cubes.get(c).at;
        return p.y > 0 && !places(s).containsKey(p.plus(0, -1));
    }

    static int[] loads(State s) {
        Map<Point, Integer> where = places(s);
        int[] load = new int[s.cubes.size()];
        List<Integer> order = new ArrayList<>();
        for (int i = 0; i < s.cubes.size(); i++) {
            order.add(i);
        }
        order.sort((a, b) -> {
            Point p = s.cubes.get(a).at;
            Point q = s.cubes.get(b).at;
            if (p.y != q.y) return q.y - p.y;
            if (hangs(s, a) != hangs(s, b)) return hangs(s, a) ? -1 : 1;
            return p.x - q.x;
        });
        for (int c : order) {
            Point p = s.cubes.get(c).at;
            int gives = s.cubes.get(c).weight() + load[c];
            if (p.y == 0) continue;
            Integer below = where.get(p.plus(0, -1));
            Integer west = where.get(p.plus(-1, 0));
            Integer east = where.get(p.plus(1, 0));
            if (below != null) {
                load[below] += gives;
            } else if (west != null && east != null) {
                load[east] += gives / 2;
                load[west] += gives - gives / 2;
            } else if (west != null) {
                load[west] += gives;
            } else if (east != null) {
                load[east] += gives;
            }
        }
        return load;
    }

    int about(int cube, int what) {
        if (!isCube(cube) || what < 0 || what > 10) return -1;
        Cube c = now.cubes.get(cube);
        int load = loads(now)[cube];
        return List.of(c.kind, c.at.x, c.at.y, c.power, c.dead ? 1 : 0, load, load > c.bears() ? 1 : 0, c.memory,
                c.heard, c.program == -1 ? -4 : c.program, hangs(now, cube) ? 1 : 0).get(what);
    }

    int at(int x, int y) {
        if (!inGrid(new Point(x, y))) return -1;
        return places(now).getOrDefault(new Point(x, y), -4);
    }

    int dead(int cube, boolean is) {
        if (!isCube(cube)) return -1;
        boolean was = now.cubes.get(cube).dead;
        if (was != is && now.log.size() == 40) return -2;
        if (was != is) now.log.add(new Note(cube, now.ticks, is));
        now.cubes.get(cube).dead = is;
        return was != is ? 1 : 0;
    }

    int charge(int cube, int n) {
        if (!isCube(cube) || n < 0 || n > 999) return -1;
        int was = now.cubes.get(cube).power;
        now.cubes.get(cube).power = n;
        return was;
    }

    static final String[] STEPS = {"E", "N", "W", "S", "NE", "NW", "SW", "SE"};

    static Point step(Point p, char to) {
        return switch (to) { case 'E' -> p.plus(1, 0); case 'N' -> p.plus(0, 1); case 'W' -> p.plus(-1, 0); default -> p.plus(0, -1); };
    }

    /** Where a MOVE leads, or null if it CAN'T be. */
    static Point goal(State s, int cube, int way) {
        Cube c = s.cubes.get(cube);
        if (c.dead || c.power < c.cost()) return null;
        Map<Point, Integer> others = places(s);
        others.remove(c.at);
        Point to;
        String steps = STEPS[way];
        if (steps.length() == 1) {
            to = step(c.at, steps.charAt(0));
            if (!inGrid(to) || others.containsKey(to)) return null;
            boolean held = false;
            for (char side : (way % 2 == 0 ? "SN" : "EW").toCharArray()) {
                Point a = step(c.at, side);
                Point b = step(to, side);
                held |= (others.containsKey(a) || a.y < 0) && (others.containsKey(b) || b.y < 0);
            }
            if (!held) return null;
        } else {
            Point between = step(c.at, steps.charAt(0));
            to = step(between, steps.charAt(1));
            if (!inGrid(between) || !inGrid(to) || others.containsKey(between) || others.containsKey(to)) return null;
            if (!others.containsKey(step(c.at, steps.charAt(1)))) return null;
        }
        Set<Point> rest = new HashSet<>(others.keySet());
        if (!whole(rest)) return null;
        rest.add(to);
        return whole(rest) ? to : null;
    }

    static boolean go(State s, int move) {
        if (move < 0 || move / 8 >= s.cubes.size()) return false;
        Point to = goal(s, move / 8, move % 8);
        if (to == null) return false;
        Cube c = s.cubes.get(move / 8);
        c.at = to;
        c.power -= c.cost();
        return true;
    }

    int can(int move) {
        if (move < 0 || !isCube(move / 8)) return -1;
        return goal(now, move / 8, move % 8) != null ? 1 : 0;
    }

    int move(int move) {
        if (move < 0 || !isCube(move / 8)) return -1;
        return go(now, move) ? now.cubes.get(move / 8).power : -3;
    }

    int moves() {
        int n = 0;
        for (int m = 0; m < 8 * now.cubes.size(); m++) {
            n += can(m);
        }
        return n;
    }

    int broken() {
        int n = 0;
        for (int c = 0; c < now.cubes.size(); c++) {
            n += about(c, 6);
        }
        return n;
    }

    // ---- shapes

    /** An automaton for the SHAPE's texts: -1 if the text is one, else the FAULT. */
    static int shapeFault(String t) {
        int deep = 0;
        boolean wantsPart = true;
        int i = 0;
        while (i < t.length()) {
            char c = t.charAt(i);
            if (wantsPart) {
                if (c == '!') {
                    i++;
                } else if (c == '(' && deep < 6) {
                    deep++;
                    i++;
                } else if (c == 'b' || c == 'o') {
                    String digits = "0000";
                    for (int k = 1; k <= 4; k++) {
                        if (i + k >= t.length()) return t.length();
                        char from = k <= 2 ? '0' : t.charAt(i + k - 2);
                        char to = k % 2 == 1 ? '9' : '7';
                        if (t.charAt(i + k) < from || t.charAt(i + k) > to) return i + k;
                    }
                    i += 1 + digits.length();
                    wantsPart = false;
                } else {
                    return i;
                }
            } else if ("+-&".indexOf(c) >= 0) {
                wantsPart = true;
                i++;
            } else if (c == ')' && deep > 0) {
                deep--;
                i++;
            } else {
                return i;
            }
        }
        return !wantsPart && deep == 0 ? -1 : t.length();
    }

    private static int cursor;

    /** Whether a point is in the SHAPE of a text that is known to be one. */
    static boolean inText(String t, Point p) {
        cursor = 0;
        return orAll(t, p);
    }

    private static boolean orAll(String t, Point p) {
        boolean is = one(t, p);
        while (cursor < t.length() && t.charAt(cursor) != ')') {
            char op = t.charAt(cursor++);
            boolean other = one(t, p);
            is = op == '+' ? is || other : op == '-' ? is && !other : is && other;
        }
        return is;
    }

    private static boolean one(String t, Point p) {
        char c = t.charAt(cursor++);
        if (c == '!') return !one(t, p);
        if (c == '(') {
            boolean is = orAll(t, p);
            cursor++;
            return is;
        }
        int[] v = new int[4];
        for (int k = 0; k < 4; k++) {
            v[k] = t.charAt(cursor++) - '0';
        }
        boolean in = p.x >= v[0] && p.x <= v[2] && p.y >= v[1] && p.y <= v[3];
        boolean inner = p.x > v[0] && p.x < v[2] && p.y > v[1] && p.y < v[3];
        return c == 'b' ? in : in && !inner;
    }

    private static final String ATOM = "(?:0|[1-9][0-9]?|[neswNESWptm])";
    private static final String SUM = ATOM + "(?:[+-]" + ATOM + ")*";
    private static final String CHECK = SUM + "[<>=]" + SUM;
    private static final String RULE = CHECK + "(?:&" + CHECK + ")*\\?(?:g[0-7]|y" + SUM + "|=" + SUM + ");";
    private static final Pattern PROGRAM = Pattern.compile("(?:" + RULE + "){1,6}");

    static int programFault(String t) {
        if (PROGRAM.matcher(t).matches()) return -1;
        for (int n = 1; n <= t.length(); n++) {
            Matcher m = PROGRAM.matcher(t.substring(0, n));
            if (!m.matches() && !m.hitEnd()) return n - 1;
        }
        return t.length();
    }

    static String textOf(byte[] row) {
        StringBuilder b = new StringBuilder();
        for (byte v : row) {
            b.append((char) (v & 255));
        }
        return b.toString();
    }

    static boolean isShelf(int d) {
        return d >= 0 && d <= 7;
    }

    int fault(int d, int what) {
        if (!isShelf(d) || (what != 0 && what != 1)) return -1;
        if (shelves[d] == null) return -11;
        if (!(shelves[d] instanceof byte[] row)) return -12;
        int f = what == 0 ? shapeFault(textOf(row)) : programFault(textOf(row));
        return f < 0 ? -4 : f;
    }

    int shape(int d) {
        if (!isShelf(d)) return -1;
        if (now.shapes.size() == 8) return -2;
        if (shelves[d] == null) return -11;
        if (!(shelves[d] instanceof byte[] row)) return -12;
        String t = textOf(row);
        int f = shapeFault(t);
        if (f >= 0) return -100 - f;
        Set<Point> cells = new HashSet<>();
        for (int x = 0; x <= 9; x++) {
            for (int y = 0; y <= 7; y++) {
                if (inText(t, new Point(x, y))) cells.add(new Point(x, y));
            }
        }
        now.shapes.add(cells);
        return now.shapes.size() - 1;
    }

    boolean isShape(int s) {
        return s >= 0 && s < now.shapes.size();
    }

    int in(int shape, int x, int y) {
        if (!isShape(shape) || !inGrid(new Point(x, y))) return -1;
        return now.shapes.get(shape).contains(new Point(x, y)) ? 1 : 0;
    }

    int met(int shape, int what) {
        if (!isShape(shape) || what < 0 || what > 3) return -1;
        Set<Point> cells = now.shapes.get(shape);
        Set<Point> taken = places(now).keySet();
        int empty = (int) cells.stream().filter(p -> !taken.contains(p)).count();
        int outside = (int) taken.stream().filter(p -> !cells.contains(p)).count();
        return new int[] {cells.size(), empty, outside, taken.equals(cells) ? 1 : 0}[what];
    }

    /** All rows of a length in their order, one after the other: null if none leads there. */
    private static List<Integer> search(State s, Set<Point> cells, int length) {
        if (length == 0) return places(s).keySet().equals(cells) ? new ArrayList<>() : null;
        for (int m = 0; m < 64 && m < 8 * s.cubes.size(); m++) {
            State next = s.copy();
            if (go(next, m)) {
                List<Integer> rest = search(next, cells, length - 1);
                if (rest != null) {
                    rest.add(0, m);
                    return rest;
                }
            }
        }
        return null;
    }

    private List<Integer> thePlan(int shape, int n) {
        for (int length = 0; length <= n; length++) {
            List<Integer> p = search(now, now.shapes.get(shape), length);
            if (p != null) return p;
        }
        return null;
    }

    int plan(int shape, int n) {
        if (!isShape(shape) || n < 0 || n > 4) return -1;
        List<Integer> p = thePlan(shape, n);
        return p == null ? -4 : p.size();
    }

    int planned(int shape, int n, int i) {
        if (!isShape(shape) || n < 0 || n > 4 || i < 0) return -1;
        List<Integer> p = thePlan(shape, n);
        return p == null || i >= p.size() ? -4 : p.get(i);
    }

    int judge(int d) {
        if (!isShelf(d)) return -1;
        if (shelves[d] == null) return -11;
        if (!(shelves[d] instanceof short[] row)) return -12;
        State s = now.copy();
        for (int i = 0; i < row.length; i++) {
            if (!go(s, row[i])) return i;
        }
        return -4;
    }

    // ---- programs

    int program(int d) {
        if (!isShelf(d)) return -1;
        if (now.programs.size() == 8) return -2;
        if (shelves[d] == null) return -11;
        if (!(shelves[d] instanceof byte[] row)) return -12;
        int f = programFault(textOf(row));
        if (f >= 0) return -100 - f;
        now.programs.add(textOf(row));
        return now.programs.size() - 1;
    }

    int gives(int cube, int program) {
        if (!isCube(cube) || program < -1 || program >= now.programs.size()) return -1;
        int was = now.cubes.get(cube).program;
        now.cubes.get(cube).program = program;
        return was == -1 ? -4 : was;
    }

    private int fieldOf(Cube c, char f) {
        if (f == 'p') return c.power;
        if (f == 't') return now.ticks % 10;
        if (f == 'm') return c.memory;
        Integer other = places(now).get(step(c.at, Character.toUpperCase(f)));
        if (Character.isLowerCase(f)) return other == null ? 0 : 1;
        return other == null ? 0 : now.cubes.get(other).heard;
    }

    private int sumOf(Cube c, String text) {
        int all = 0;
        Matcher m = Pattern.compile("([+-]?)(" + ATOM + ")").matcher(text);
        while (m.find()) {
            String a = m.group(2);
            int v = Character.isDigit(a.charAt(0)) ? Integer.parseInt(a) : fieldOf(c, a.charAt(0));
            all += m.group(1).equals("-") ? -v : v;
        }
        return all;
    }

    private boolean holds(Cube c, String test) {
        for (String check : test.split("&")) {
            Matcher m = Pattern.compile("(.*)([<>=])(.*)").matcher(check);
            if (!m.matches()) throw new AssertionError(check);
            int left = sumOf(c, m.group(1));
            int right = sumOf(c, m.group(3));
            boolean is = switch (m.group(2)) { case "<" -> left < right; case ">" -> left > right; default -> left == right; };
            if (!is) return false;
        }
        return true;
    }

    private int ruleOf(Cube c) {
        String[] rules = now.programs.get(c.program).split(";");
        for (int i = 0; i < rules.length; i++) {
            if (holds(c, rules[i].split("\\?")[0])) return i;
        }
        return -4;
    }

    int rule(int cube) {
        if (!isCube(cube)) return -1;
        Cube c = now.cubes.get(cube);
        if (c.dead || c.program == -1) return -3;
        return ruleOf(c);
    }

    int ticks(int n) {
        if (n < 1 || n > 50) return -1;
        if (now.ticks + n > 2000) return -2;
        int moved = 0;
        for (int k = 0; k < n; k++) {
            moved += tick();
        }
        return moved;
    }

    private int tick() {
        int moved = 0;
        for (Cube c : now.cubes) {
            c.said = 0;
        }
        for (int i = 0; i < now.cubes.size(); i++) {
            Cube c = now.cubes.get(i);
            int r = c.dead || c.program == -1 ? -4 : ruleOf(c);
            if (r < 0) continue;
            String act = now.programs.get(c.program).split(";")[r].split("\\?")[1];
            if (act.charAt(0) == 'g') {
                if (go(now, 8 * i + act.charAt(1) - '0')) moved++;
            } else {
                int v = ((sumOf(c, act.substring(1)) % 100) + 100) % 100;
                if (act.charAt(0) == 'y') c.said = v;
                else c.memory = v;
            }
        }
        for (Cube c : now.cubes) {
            if (c.dead) continue;
            Cube least = null;
            for (char side : "ENWS".toCharArray()) {
                Integer other = places(now).get(step(c.at, side));
                if (other == null || now.cubes.get(other).dead) continue;
                if (least == null || now.cubes.get(other).power < least.power) least = now.cubes.get(other);
            }
            if (least != null && c.power - least.power >= 2) {
                least.power++;
                c.power--;
            }
        }
        for (Cube c : now.cubes) {
            c.heard = c.said;
        }
        now.ticks++;
        return moved;
    }

    // ---- reports

    int report(int cube, int tick, boolean dead) {
        if (!isCube(cube) || tick < 0 || tick > now.ticks) return -1;
        if (now.reports.size() == 40) return -2;
        now.reports.add(new Note(cube, tick, dead));
        return now.reports.size() - 1;
    }

    private static boolean told(List<Note> notes, int cube, int tick) {
        for (int t = tick; t >= 0; t--) {
            for (int i = notes.size() - 1; i >= 0; i--) {
                if (notes.get(i).cube == cube && notes.get(i).tick == t) return notes.get(i).dead;
            }
        }
        return false;
    }

    private List<Note> firstReports(int e) {
        return e == -1 ? now.reports : now.reports.subList(0, e);
    }

    int believed(int cube, int tick, int e) {
        if (!isCube(cube) || tick < 0 || tick > now.ticks || e < -1 || e > now.reports.size()) return -1;
        return told(firstReports(e), cube, tick) ? 1 : 0;
    }

    int wrong(int cube, int e) {
        if (!isCube(cube) || e < -1 || e > now.reports.size()) return -1;
        int n = 0;
        for (int t = 0; t < now.ticks; t++) {
            if (told(firstReports(e), cube, t) != told(now.log, cube, t)) n++;
        }
        return n;
    }

    int image() {
        image = now.copy();
        return now.ticks;
    }

    int restore() {
        if (image == null) return -3;
        now = image.copy();
        return now.ticks;
    }

    int count(int what) {
        return switch (what) {
            case 0 -> now.cubes.size();
            case 1 -> (int) now.cubes.stream().filter(c -> c.dead).count();
            case 2 -> now.cubes.stream().mapToInt(c -> c.power).sum();
            case 3 -> now.shapes.size();
            case 4 -> now.programs.size();
            case 5 -> now.reports.size();
            case 6 -> now.ticks;
            case 7 -> now.cubes.stream().mapToInt(Cube::weight).sum();
            case 8 -> now.log.size();
            default -> -1;
        };
    }

    // ---- shelves

    int keep(int d, int what, int k) {
        if (!isShelf(d) || what < 0 || what > 1 || (what == 1 && !isCube(k))) return -1;
        shelves[d] = what == 0 ? null : now.cubes.get(k).copy();
        return 0;
    }

    int row(int d, int sort, int n) {
        if (!isShelf(d) || sort < 0 || sort > 2 || n > 90) return -1;
        if (n < 0) return -14;
        shelves[d] = sort == 0 ? new byte[n] : sort == 1 ? (Object) new short[n] : new int[n];
        return 0;
    }

    private static int sizeOf(Object row) {
        return java.lang.reflect.Array.getLength(row);
    }

    int put(int d, int i, int v) {
        if (!isShelf(d)) return -1;
        Object r = shelves[d];
        if (r == null) return -11;
        if (r instanceof Cube) return -12;
        if (i < 0 || i >= sizeOf(r)) return -13;
        if (r instanceof byte[] b) b[i] = (byte) v;
        if (r instanceof short[] s) s[i] = (short) v;
        if (r instanceof int[] n) n[i] = v;
        return 0;
    }

    long element(int d, int i) {
        if (!isShelf(d)) throw new IllegalArgumentException();
        Object r = shelves[d];
        if (r == null || r instanceof Cube || i < 0 || i >= sizeOf(r)) throw new IllegalStateException();
        return java.lang.reflect.Array.getLong(r, i);
    }

    int copy(int d, int i, int e, int j, int n) {
        if (!isShelf(d) || !isShelf(e)) return -1;
        if (shelves[d] == null || shelves[e] == null) return -11;
        if (shelves[d] instanceof Cube || shelves[e] instanceof Cube) return -12;
        try {
            System.arraycopy(shelves[d], i, shelves[e], j, n);
        } catch (ArrayStoreException x) {
            return -12;
        } catch (IndexOutOfBoundsException x) {
            return -13;
        }
        return n;
    }

    int sum(int d) {
        if (!isShelf(d)) return -1;
        if (shelves[d] == null) return -11;
        if (!(shelves[d] instanceof Cube c)) return -12;
        int plain = 100 + c.weight() + c.bears();
        return switch (c.kind) { case 0 -> plain; case 1 -> plain + 50; case 2 -> plain + c.cost() + c.power; default -> 2 * (plain + c.cost() + c.power); };
    }

    int toss(int d) {
        if (!isShelf(d)) return -1;
        if (shelves[d] == null) return -11;
        if (!(shelves[d] instanceof Cube c)) return -12;
        if (c.kind == 0 || c.dead) return -15;
        return 8 * c.at.x + c.at.y + (c.kind == 3 ? 100 : 0);
    }
}
