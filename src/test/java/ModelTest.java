import java.lang.reflect.InvocationTargetException;
import java.lang.reflect.Method;
import java.util.ArrayList;
import java.util.HashMap;
import java.util.List;
import java.util.Map;
import java.util.Random;

/** Random runs of calls, the same on CubeFolk and on the Model: every answer must agree. */
public final class ModelTest {
    private static final Map<String, Method> REAL = methodsOf(CubeFolk.class);
    private static final Map<String, Method> MODEL = methodsOf(Model.class);
    private static final int[] EDGES = {Integer.MIN_VALUE, Integer.MAX_VALUE, -100, -2, -1, 0, 1, 2, 3, 4, 7, 8, 9, 10, 15, 16,
        40, 41, 50, 51, 89, 90, 91, 127, 128, 999, 1000};

    private final Random random;
    private final CubeFolk real = new CubeFolk();
    private final Model model = new Model();
    private final List<String> transcript = new ArrayList<>();
    private final int style;
    private int calls;
    boolean differs;

    private ModelTest(long seed) {
        random = new Random(seed);
        style = random.nextInt(9);
    }

    private static Map<String, Method> methodsOf(Class<?> c) {
        Map<String, Method> all = new HashMap<>();
        for (Method m : c.getDeclaredMethods()) {
            if (c == Model.class || java.lang.reflect.Modifier.isPublic(m.getModifiers())) {
                m.setAccessible(true);
                all.putIfAbsent(m.getName(), m);
            }
        }
        return all;
    }

    private static String answer(Method m, Object on, Object[] args) {
        try {
            return String.valueOf(m.invoke(on, args));
        } catch (InvocationTargetException e) {
            return "throws." + e.getCause().getClass().getSimpleName();
        } catch (IllegalAccessException e) {
            throw new AssertionError(e);
        }
    }

    private String call(String name, Object... args) {
        if (calls++ >= 512 || differs) return "over";
        String mine = answer(REAL.get(name), real, args);
        String due = answer(MODEL.get(name), model, args);
        transcript.add(name + java.util.Arrays.toString(args) + " -> " + mine);
        if (!mine.equals(due)) {
            differs = true;
            for (String line : transcript) System.out.println(line);
            System.out.println("due was " + due);
        }
        return mine;
    }

    private int any(int bound) {
        return random.nextInt(bound);
    }

    private boolean chance(int percent) {
        return any(100) < percent;
    }

    /** Mostly a number below a bound, now and then an odd one. */
    private int about(int bound) {
        if (chance(4)) return EDGES[any(EDGES.length)];
        return bound <= 0 ? 0 : any(bound);
    }

    private int cubes() {
        return model.now.cubes.size();
    }

    private int aCube() {
        return about(cubes());
    }

    private void addCube() {
        if (cubes() == 0 || chance(20)) {
            call("cube", about(4), about(10), chance(60) ? 0 : about(8), about(40));
            return;
        }
        Model.Point p = model.now.cubes.get(any(cubes())).at;
        int side = any(4);
        int x = p.x() + (side == 0 ? 1 : side == 1 ? -1 : 0);
        int y = p.y() + (side == 2 ? 1 : side == 3 ? -1 : 0);
        call("cube", about(4), x, y, chance(10) ? about(1000) : about(60));
    }

    private void aMove() {
        int from = any(8 * Math.max(1, cubes()));
        for (int k = 0; k < 8 * cubes() && chance(98); k++) {
            int m = (from + k) % (8 * cubes());
            if (model.can(m) == 1) {
                call("can", m);
                call("move", m);
                return;
            }
        }
        call(chance(50) ? "can" : "move", about(8 * cubes() + 2));
    }

    private String box() {
        int x0 = any(10);
        int y0 = any(8);
        int x1 = chance(50) ? Math.min(9, x0 + any(3)) : x0 + any(10 - x0);
        int y1 = chance(50) ? Math.min(7, y0 + any(3)) : y0 + any(8 - y0);
        return (chance(70) ? "b" : "o") + x0 + y0 + x1 + y1;
    }

    private String part(int deep) {
        if (chance(20)) return "!" + part(deep);
        if (deep < 7 && chance(30)) return "(" + parts(deep + 1) + ")";
        return box();
    }

    private String parts(int deep) {
        StringBuilder b = new StringBuilder(part(deep));
        while (chance(35)) b.append("+-&".charAt(any(3))).append(part(deep));
        return b.toString();
    }

    private String single(Model.Point p) {
        return "b" + p.x() + p.y() + p.x() + p.y();
    }

    /** What the cubes make after some moves, so that there is a plan to it. */
    private String nearShape() {
        Model.State s = model.now.copy();
        for (int k = 0, n = any(5); k < n; k++) {
            for (int tries = 0; tries < 30; tries++) {
                if (Model.go(s, any(Math.min(64, 8 * Math.max(1, s.cubes.size()))))) break;
            }
        }
        StringBuilder b = new StringBuilder();
        for (Model.Cube c : s.cubes) b.append(b.length() == 0 ? "" : "+").append(single(c.at));
        return b.length() == 0 ? "b0000-b0000" : b.toString();
    }

    private String atom() {
        if (chance(40)) return String.valueOf(chance(50) ? any(10) : any(100));
        return String.valueOf("neswNESWptm".charAt(any(11)));
    }

    private String sum() {
        StringBuilder b = new StringBuilder(atom());
        while (chance(30)) b.append("+-".charAt(any(2))).append(atom());
        return b.toString();
    }

    private String programText() {
        StringBuilder b = new StringBuilder();
        for (int k = 0, n = 1 + any(chance(10) ? 7 : 4); k < n; k++) {
            b.append(sum()).append("<>=".charAt(any(3))).append(sum());
            while (chance(25)) b.append('&').append(sum()).append("<>=".charAt(any(3))).append(sum());
            b.append('?');
            int act = any(3);
            if (act == 0) b.append('g').append(any(8));
            if (act == 1) b.append('y').append(sum());
            if (act == 2) b.append('=').append(sum());
            b.append(';');
        }
        return b.toString();
    }

    private String spoilt(String text) {
        if (chance(60) || text.isEmpty()) return text;
        StringBuilder b = new StringBuilder(text);
        int at = any(text.length());
        String signs = "0123456789bo!()+-&neswNESWptm<>=?gy; ";
        switch (any(3)) {
            case 0: b.setCharAt(at, signs.charAt(any(signs.length()))); break;
            case 1: b.deleteCharAt(at); break;
            default: b.insert(at, signs.charAt(any(signs.length())));
        }
        return b.toString();
    }

    private int writeText(String text) {
        int d = any(8);
        String t = text.length() > 90 ? text.substring(0, 90) : text;
        call("row", d, 0, t.length());
        for (int i = 0; i < t.length(); i++) {
            call("put", d, i, (int) t.charAt(i) + (chance(1) ? 256 : 0));
        }
        return d;
    }

    private void shapes() {
        int d = writeText(spoilt(chance(60) && cubes() <= 15 ? nearShape() : parts(0)));
        call("fault", d, 0);
        call("shape", d);
        int s = about(model.now.shapes.size());
        call("in", s, about(10), about(8));
        call("met", s, about(4));
        plans(model.now.shapes.size() - 1);
    }

    private void plans(int s) {
        int most = cubes() <= 3 ? 4 : cubes() <= 5 ? 3 : 2;
        int n = chance(4) ? about(5) : any(most + 1);
        if (n > most && n <= 4) n = most;
        call("plan", s, n);
        call("planned", s, n, about(5));
    }

    private void judging() {
        int d = any(8);
        call("row", d, 1, any(6));
        Model.State s = model.now.copy();
        for (int i = 0; i < 6 && model.shelves[d] instanceof short[] row && i <= row.length; i++) {
            int m = about(8 * cubes() + 1);
            for (int tries = 0; tries < 20 && chance(95); tries++) {
                int other = any(8 * Math.max(1, cubes()));
                if (Model.go(s, other)) {
                    m = other;
                    break;
                }
            }
            call("put", d, i, m);
        }
        call("judge", d);
        call("judge", about(8));
    }

    private void programs() {
        int d = writeText(spoilt(programText()));
        call("fault", d, 1);
        call("program", d);
        call("gives", aCube(), about(model.now.programs.size() + 1) - 1);
        call("rule", aCube());
        call("ticks", chance(80) ? 1 + any(4) : about(52));
    }

    private void reports() {
        switch (any(5)) {
            case 0: call("report", aCube(), about(model.now.ticks + 2), random.nextBoolean()); break;
            case 1: call("believed", aCube(), about(model.now.ticks + 2), about(model.now.reports.size() + 3) - 1); break;
            case 2: call("wrong", aCube(), about(model.now.reports.size() + 3) - 1); break;
            case 3: call("dead", aCube(), random.nextBoolean()); break;
            default: call("ticks", about(8));
        }
    }

    private void shelf() {
        int d = about(8);
        switch (any(7)) {
            case 0: call("keep", d, about(2), aCube()); break;
            case 1: call("row", d, about(3), about(92)); break;
            case 2: call("put", d, about(20), random.nextInt() >> any(32)); break;
            case 3: call("element", d, about(20)); break;
            case 4: call("copy", d, about(8), about(8), about(8), about(8)); break;
            case 5: call("sum", d); break;
            default: call("toss", d);
        }
    }

    private void look() {
        call("about", aCube(), about(11));
        switch (any(7)) {
            case 0: call("at", about(10), about(8)); break;
            case 1: call("moves"); break;
            case 2: call("broken"); break;
            case 3: call("count", about(9)); break;
            case 4: call("charge", aCube(), chance(80) ? about(40) : about(1001)); break;
            case 5: call("rule", aCube()); break;
            default: call("dead", aCube(), chance(30));
        }
    }

    private void everything() {
        for (int c = 0; c < cubes(); c++) {
            for (int what = 0; what <= 10; what++) call("about", c, what);
        }
        for (int what = 0; what <= 8; what++) call("count", what);
        call("moves");
        call("broken");
    }

    /** Fills what has a limit: changes, reports, ticks, texts. */
    private void atLimits() {
        int kind = any(14);
        if (kind < 4) call("dead", aCube(), random.nextBoolean());
        else if (kind < 8) call("report", aCube(), about(model.now.ticks + 1), random.nextBoolean());
        else if (kind < 10) call("ticks", 40 + any(11));
        else if (kind == 10) call("shape", writeText(chance(80) ? box() : "b"));
        else if (kind == 11) call("program", writeText(chance(80) ? "t<5?y" + sum() + ";" : "t"));
        else if (kind == 12) call("wrong", aCube(), about(model.now.reports.size() + 2) - 1);
        else call(chance(30) ? "image" : chance(5) ? "restore" : "moves");
    }

    /** Few cubes with power enough; as soon as there is no room for shapes, all is as it was ahead of them. */
    private void manyPlans() {
        if (model.now.shapes.size() == 8) call("restore");
        int s = shapeOfText(nearShape());
        int most = cubes() <= 4 ? 4 : cubes() <= 6 ? 3 : 2;
        call("plan", s, most);
        for (int i = 0; i <= most; i++) call("planned", s, most, i);
        for (int k = 0; k < 3; k++) aMove();
    }

    private int shapeOfText(String text) {
        String answer = call("shape", writeText(text));
        return answer.equals("over") ? 0 : Integer.parseInt(answer);
    }

    private void run() {
        if (style == 8) {
            for (int k = 0, n = 3 + any(10); k < n; k++) addCube();
            call("image");
            while (calls < 512 && !differs) manyPlans();
            return;
        }
        for (int k = 0, n = 1 + any(style == 0 ? 70 : 10); k < n; k++) addCube();
        while (calls < 512 && !differs) {
            int kind = any(100);
            if (style == 5 && chance(70)) atLimits();
            else if (style == 6 && chance(50)) call("dead", aCube(), random.nextBoolean());
            else if (style == 7 && chance(25)) call("ticks", 50 - any(3));
            else if (kind < 8) addCube();
            else if (kind < 25) aMove();
            else if (kind < (style == 1 ? 60 : 29)) shapes();
            else if (kind < (style == 2 ? 65 : 34)) programs();
            else if (kind < 38) judging();
            else if (kind < (style == 3 ? 85 : 55)) reports();
            else if (kind < (style == 4 ? 90 : 75)) shelf();
            else if (kind < 76) call("image");
            else if (kind < 77) call("restore");
            else if (kind < 78) everything();
            else look();
        }
    }

    public static void main(String[] args) {
        int runs = args.length > 0 ? Integer.parseInt(args[0]) : 1500;
        long first = args.length > 1 ? Long.parseLong(args[1]) : 1;
        int differing = 0;
        for (long seed = first; seed < first + runs && differing < 3; seed++) {
            ModelTest test = new ModelTest(seed);
            test.run();
            if (test.differs) {
                differing++;
                System.out.println("-- seed " + seed);
            }
        }
        System.out.println(runs + " runs against the model, " + differing + " differing");
        if (differing != 0) System.exit(1);
    }
}
