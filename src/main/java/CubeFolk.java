/**
 * Cubes on a plane grid that hold on to one another and become shapes.
 *
 * <p>Words in capitals are the terms of DOC.md. The rows that the calls need are made once, with the
 * object, and used again: a call makes no object, but for what it throws.
 */
public final class CubeFolk {

    private static final int NO_SUCH = -1;
    private static final int NO_ROOM = -2;
    private static final int CANNOT = -3;
    private static final int NONE = -4;
    private static final int NOTHING_HELD = -11;
    private static final int OTHER_KIND = -12;
    private static final int NO_PLACE = -13;
    private static final int BELOW_ZERO = -14;
    private static final int NO_FAILURE = -15;
    private static final int FAULTY = -100;

    private static final int WIDE = 10;
    private static final int HIGH = 8;
    private static final int CUBES = 16;
    private static final int SHELVES = 8;
    private static final int SHAPES = 8;
    private static final int PROGRAMS = 8;
    private static final int LONGEST = 90;
    private static final int NOTES = 40;
    private static final int MOST_POWER = 999;
    private static final int LAST_TICK = 2000;
    private static final int MOST_TICKS = 50;
    private static final int LONGEST_PLAN = 4;
    private static final int PLANNED_CUBES = 8;
    private static final int RULES = 6;

    private static final int STRONG = 1;
    private static final int MOTOR = 2;
    private static final int PILOT = 3;
    private static final int KINDS = 4;
    private static final int[] WEIGHT = {2, 3, 3, 6};
    private static final int[] BEARS = {6, 12, 4, 2};
    private static final int[] COST = {3, 4, 1, 1};

    // The grid stands in a frame one cell wide: whatever is beside a cell of it has a number too.
    private static final int FRAMED = WIDE + 2;
    private static final int AREA = FRAMED * (HIGH + 2);
    private static final int FREE = -1;
    private static final int WALL = -2;
    private static final int GROUND = -3;

    private static final int WAYS = 8;
    private static final int FIRST_TURN = 4;
    // East, north, west, south; then the turns, by where they come to.
    private static final int[] GOES = {1, FRAMED, -1, -FRAMED, FRAMED + 1, FRAMED - 1, -FRAMED - 1, 1 - FRAMED};
    private static final int[] TURN_FIRST = {FRAMED, FRAMED, -FRAMED, -FRAMED};
    private static final int[] TURN_SECOND = {1, -1, -1, 1};

    // A SHAPE's cells are two sets of bits: those of its lower and of its upper four rows.
    private static final int HALF_HIGH = HIGH / 2;
    private static final long HALF_FULL = (1L << (WIDE * HALF_HIGH)) - 1;
    private static final int DEEPEST = 6;

    private static final int END = -1000;
    private static final int[] NO_TEXT = {};

    private final World now;
    private final World imaged;
    private boolean hasImage;
    private final Body trial;
    private final Planner planner;
    private final Mind mind;
    private final ShapeReader shapeReader;
    private final ProgramReader programReader;
    private final Shelf[] shelves;

    public CubeFolk() {
        now = new World();
        imaged = new World();
        trial = new Body();
        planner = new Planner(trial);
        mind = new Mind(now);
        shapeReader = new ShapeReader();
        programReader = new ProgramReader();
        shelves = new Shelf[SHELVES];
        for (int d = 0; d < SHELVES; d++) {
            shelves[d] = new Shelf();
        }
    }

    // ---- cubes

    public int cube(int kind, int x, int y, int power) {
        if (kind < 0 || kind >= KINDS || !onGrid(x, y) || power < 0 || power > MOST_POWER) {
            return NO_SUCH;
        }
        if (now.body.size >= CUBES) {
            return NO_ROOM;
        }
        int cell = cellOf(x, y);
        if (now.body.inCell(cell) != FREE || !now.body.holdsOn(cell, -1)) {
            return CANNOT;
        }
        return now.addCube(kind, cell, power);
    }

    public int about(int cube, int what) {
        if (!now.body.has(cube)) {
            return NO_SUCH;
        }
        switch (what) {
            case 0: return now.body.kind[cube];
            case 1: return columnOf(now.body.cell[cube]);
            case 2: return levelOf(now.body.cell[cube]);
            case 3: return now.body.power[cube];
            case 4: return oneIf(now.body.dead[cube]);
            case 5: return now.body.loadOf(cube);
            case 6: return oneIf(now.body.loadOf(cube) > BEARS[now.body.kind[cube]]);
            case 7: return now.memory[cube];
            case 8: return now.heard[cube];
            case 9: return now.runs[cube] < 0 ? NONE : now.runs[cube];
            case 10: return oneIf(now.body.hangs(now.body.cell[cube]));
            default: return NO_SUCH;
        }
    }

    public int at(int x, int y) {
        if (!onGrid(x, y)) {
            return NO_SUCH;
        }
        int cube = now.body.inCell(cellOf(x, y));
        return cube < 0 ? NONE : cube;
    }

    public int dead(int cube, boolean is) {
        if (!now.body.has(cube)) {
            return NO_SUCH;
        }
        // What changes nothing wants no room in THE LOG.
        if (now.body.dead[cube] == is) {
            return 0;
        }
        if (now.log.size >= NOTES) {
            return NO_ROOM;
        }
        now.body.dead[cube] = is;
        now.log.note(cube, now.time, is);
        return 1;
    }

    public int charge(int cube, int n) {
        if (!now.body.has(cube) || n < 0 || n > MOST_POWER) {
            return NO_SUCH;
        }
        int before = now.body.power[cube];
        now.body.power[cube] = n;
        return before;
    }

    public int can(int move) {
        if (!now.body.isMove(move)) {
            return NO_SUCH;
        }
        return oneIf(now.body.mayGo(move / WAYS, move % WAYS));
    }

    public int move(int move) {
        if (!now.body.isMove(move)) {
            return NO_SUCH;
        }
        int cube = move / WAYS;
        if (!now.body.mayGo(cube, move % WAYS)) {
            return CANNOT;
        }
        now.body.go(cube, move % WAYS);
        return now.body.power[cube];
    }

    public int moves() {
        int possible = 0;
        for (int move = 0; move < now.body.size * WAYS; move++) {
            possible += oneIf(now.body.mayGo(move / WAYS, move % WAYS));
        }
        return possible;
    }

    public int broken() {
        now.body.weigh();
        int found = 0;
        for (int c = 0; c < now.body.size; c++) {
            found += oneIf(now.body.load[c] > BEARS[now.body.kind[c]]);
        }
        return found;
    }

    // ---- shapes and plans

    public int fault(int d, int what) {
        if (!isShelf(d) || what < 0 || what > 1) {
            return NO_SUCH;
        }
        int refusal = shelves[d].refusalOfRow(Shelf.BYTES);
        if (refusal < 0) {
            return refusal;
        }
        if (what == 0) {
            shapeReader.cellsOf(shelves[d], 0);
            return shapeReader.isFaulty() ? shapeReader.faultPlace() : NONE;
        }
        programReader.check(shelves[d]);
        return programReader.isFaulty() ? programReader.faultPlace() : NONE;
    }

    public int shape(int d) {
        if (!isShelf(d)) {
            return NO_SUCH;
        }
        if (now.shapes >= SHAPES) {
            return NO_ROOM;
        }
        int refusal = shelves[d].refusalOfRow(Shelf.BYTES);
        if (refusal < 0) {
            return refusal;
        }
        long lower = shapeReader.cellsOf(shelves[d], 0);
        long upper = shapeReader.cellsOf(shelves[d], 1);
        return shapeReader.isFaulty() ? FAULTY - shapeReader.faultPlace() : now.addShape(lower, upper);
    }

    public int in(int shape, int x, int y) {
        if (!now.hasShape(shape) || !onGrid(x, y)) {
            return NO_SUCH;
        }
        return oneIf(now.shapeHolds(shape, x, y));
    }

    public int met(int shape, int what) {
        if (!now.hasShape(shape)) {
            return NO_SUCH;
        }
        switch (what) {
            case 0: return now.cellsInShape(shape);
            case 1: return now.emptyInShape(shape);
            case 2: return now.outsideShape(shape);
            case 3: return oneIf(now.emptyInShape(shape) == 0 && now.outsideShape(shape) == 0);
            default: return NO_SUCH;
        }
    }

    public int plan(int shape, int n) {
        if (!now.hasShape(shape) || n < 0 || n > LONGEST_PLAN) {
            return NO_SUCH;
        }
        return planner.find(now, shape, n);
    }

    public int planned(int shape, int n, int i) {
        if (!now.hasShape(shape) || n < 0 || n > LONGEST_PLAN || i < 0) {
            return NO_SUCH;
        }
        int length = planner.find(now, shape, n);
        return i < length ? planner.moveOf(i) : NONE;
    }

    public int judge(int d) {
        if (!isShelf(d)) {
            return NO_SUCH;
        }
        Shelf row = shelves[d];
        int refusal = row.refusalOfRow(Shelf.SHORTS);
        if (refusal < 0) {
            return refusal;
        }
        trial.copyFrom(now.body);
        for (int i = 0; i < row.size; i++) {
            int move = row.elements[i];
            if (!trial.isMove(move) || !trial.mayGo(move / WAYS, move % WAYS)) {
                return i;
            }
            trial.go(move / WAYS, move % WAYS);
        }
        return NONE;
    }

    // ---- programs

    public int program(int d) {
        if (!isShelf(d)) {
            return NO_SUCH;
        }
        if (now.programs >= PROGRAMS) {
            return NO_ROOM;
        }
        int refusal = shelves[d].refusalOfRow(Shelf.BYTES);
        if (refusal < 0) {
            return refusal;
        }
        programReader.check(shelves[d]);
        return programReader.isFaulty() ? FAULTY - programReader.faultPlace() : now.addProgram(shelves[d]);
    }

    public int gives(int cube, int program) {
        if (!now.body.has(cube) || program < -1 || program >= now.programs) {
            return NO_SUCH;
        }
        int before = now.runs[cube];
        now.runs[cube] = program;
        return before < 0 ? NONE : before;
    }

    public int rule(int cube) {
        if (!now.body.has(cube)) {
            return NO_SUCH;
        }
        if (!now.isRunning(cube)) {
            return CANNOT;
        }
        return mind.chooseRule(cube);
    }

    public int ticks(int n) {
        if (n < 1 || n > MOST_TICKS) {
            return NO_SUCH;
        }
        if (now.time + n > LAST_TICK) {
            return NO_ROOM;
        }
        int done = 0;
        for (int k = 0; k < n; k++) {
            done += mind.runAll();
            now.sharePower();
            now.endTick();
        }
        return done;
    }

    // ---- reports

    public int report(int cube, int tick, boolean dead) {
        if (!now.body.has(cube) || !now.isTick(tick)) {
            return NO_SUCH;
        }
        if (now.reports.size >= NOTES) {
            return NO_ROOM;
        }
        return now.reports.note(cube, tick, dead);
    }

    public int believed(int cube, int tick, int e) {
        if (!now.body.has(cube) || !now.isTick(tick) || !now.mayBelieve(e)) {
            return NO_SUCH;
        }
        return oneIf(now.reports.tellDead(cube, tick, now.reports.firstOf(e)));
    }

    public int wrong(int cube, int e) {
        if (!now.body.has(cube) || !now.mayBelieve(e)) {
            return NO_SUCH;
        }
        return now.wrongTicks(cube, now.reports.firstOf(e));
    }

    public int image() {
        imaged.copyFrom(now);
        hasImage = true;
        return now.time;
    }

    public int restore() {
        if (!hasImage) {
            return CANNOT;
        }
        now.copyFrom(imaged);
        return now.time;
    }

    public int count(int what) {
        switch (what) {
            case 0: return now.body.size;
            case 1: return now.body.countDead();
            case 2: return now.body.wholePower();
            case 3: return now.shapes;
            case 4: return now.programs;
            case 5: return now.reports.size;
            case 6: return now.time;
            case 7: return now.body.wholeWeight();
            case 8: return now.log.size;
            default: return NO_SUCH;
        }
    }

    // ---- shelves

    public int keep(int d, int what, int k) {
        if (!isShelf(d) || what < 0 || what > 1 || (what == 1 && !now.body.has(k))) {
            return NO_SUCH;
        }
        if (what == 0) {
            shelves[d].hold(Shelf.NOTHING);
        } else {
            shelves[d].holdCube(now.body, k);
        }
        return 0;
    }

    public int row(int d, int sort, int n) {
        if (!isShelf(d) || sort < Shelf.BYTES || sort > Shelf.INTS || n > LONGEST) {
            return NO_SUCH;
        }
        if (n < 0) {
            return BELOW_ZERO;
        }
        shelves[d].holdRow(sort, n);
        return 0;
    }

    public int put(int d, int i, int v) {
        if (!isShelf(d)) {
            return NO_SUCH;
        }
        int refusal = shelves[d].refusalOfRow(Shelf.ANY);
        if (refusal < 0) {
            return refusal;
        }
        if (!shelves[d].hasPlace(i)) {
            return NO_PLACE;
        }
        shelves[d].elements[i] = shelves[d].lowestBits(v);
        return 0;
    }

    public long element(int d, int i) throws IllegalArgumentException, IllegalStateException {
        if (!isShelf(d)) {
            throw new IllegalArgumentException("no such shelf");
        }
        if (!shelves[d].isRow() || !shelves[d].hasPlace(i)) {
            throw new IllegalStateException("no such element");
        }
        return shelves[d].elements[i];
    }

    public int copy(int d, int i, int e, int j, int n) {
        if (!isShelf(d) || !isShelf(e)) {
            return NO_SUCH;
        }
        Shelf from = shelves[d];
        Shelf to = shelves[e];
        if (from.holds == Shelf.NOTHING || to.holds == Shelf.NOTHING) {
            return NOTHING_HELD;
        }
        if (!from.isRow() || !to.isRow() || from.holds != to.holds) {
            return OTHER_KIND;
        }
        if (!from.hasPlaces(i, n) || !to.hasPlaces(j, n)) {
            return NO_PLACE;
        }
        System.arraycopy(from.elements, i, to.elements, j, n);
        return n;
    }

    public int sum(int d) {
        if (!isShelf(d)) {
            return NO_SUCH;
        }
        int refusal = shelves[d].refusalOfCube();
        return refusal < 0 ? refusal : shelves[d].sumOfCube();
    }

    public int toss(int d) {
        if (!isShelf(d)) {
            return NO_SUCH;
        }
        int refusal = shelves[d].refusalOfCube();
        return refusal < 0 ? refusal : caughtFailure(shelves[d]);
    }

    private static int caughtFailure(Shelf shelf) {
        try {
            shelf.throwFailure();
        } catch (IllegalArgumentException pilots) {
            return shelf.placeOfCube() + 100;
        } catch (IllegalStateException strongOrMotors) {
            return shelf.placeOfCube();
        }
        return NO_FAILURE;
    }

    private static boolean isShelf(int d) {
        return d >= 0 && d < SHELVES;
    }

    private static boolean onGrid(int x, int y) {
        return x >= 0 && x < WIDE && y >= 0 && y < HIGH;
    }

    private static int cellOf(int x, int y) {
        return (y + 1) * FRAMED + x + 1;
    }

    private static int columnOf(int cell) {
        return cell % FRAMED - 1;
    }

    private static int levelOf(int cell) {
        return cell / FRAMED - 1;
    }

    private static int oneIf(boolean is) {
        return is ? 1 : 0;
    }

    /** The CUBES where they stand: what MOVES and LOADS need, and no more, so that trials copy little. */
    private static final class Body {
        int size;
        final int[] kind = new int[CUBES];
        final int[] cell = new int[CUBES];
        final int[] power = new int[CUBES];
        final boolean[] dead = new boolean[CUBES];
        final int[] load = new int[CUBES];
        private final int[] grid = new int[AREA];
        private final int[] reached = new int[CUBES];

        Body() {
            for (int at = 0; at < AREA; at++) {
                boolean inside = columnOf(at) >= 0 && columnOf(at) < WIDE;
                grid[at] = !inside || levelOf(at) >= HIGH ? WALL : levelOf(at) < 0 ? GROUND : FREE;
            }
        }

        void copyFrom(Body other) {
            size = other.size;
            System.arraycopy(other.kind, 0, kind, 0, CUBES);
            System.arraycopy(other.cell, 0, cell, 0, CUBES);
            System.arraycopy(other.power, 0, power, 0, CUBES);
            System.arraycopy(other.dead, 0, dead, 0, CUBES);
            System.arraycopy(other.grid, 0, grid, 0, AREA);
        }

        boolean has(int cube) {
            return cube >= 0 && cube < size;
        }

        /** What a cell of the framed grid holds: a CUBE's number, or FREE, WALL, GROUND. */
        int inCell(int at) {
            return at >= 0 && at < AREA ? grid[at] : WALL;
        }

        void place(int newKind, int at, int newPower) {
            if (size < CUBES && inCell(at) == FREE) {
                kind[size] = newKind;
                cell[size] = at;
                power[size] = newPower;
                dead[size] = false;
                grid[at] = size;
                size++;
            }
        }

        boolean isMove(int move) {
            return move >= 0 && has(move / WAYS);
        }

        /** Whether the MOVE of a CUBE that is there CAN be; the dearest test comes last. */
        boolean mayGo(int cube, int way) {
            if (dead[cube] || power[cube] < COST[kind[cube]]) {
                return false;
            }
            int from = cell[cube];
            int to = from + GOES[way];
            if (inCell(to) != FREE) {
                return false;
            }
            boolean fits = way < FIRST_TURN ? slides(from, to) : turns(from, way - FIRST_TURN);
            return fits && holdsOn(to, cube) && othersAreWhole(cube);
        }

        private boolean slides(int from, int to) {
            boolean level = to - from == 1 || from - to == 1;
            int side = level ? FRAMED : 1;
            return (supports(from - side) && supports(to - side)) || (supports(from + side) && supports(to + side));
        }

        private boolean turns(int from, int turn) {
            return inCell(from + TURN_FIRST[turn]) == FREE && inCell(from + TURN_SECOND[turn]) >= 0;
        }

        private boolean supports(int at) {
            int what = inCell(at);
            return what >= 0 || what == GROUND;
        }

        /** Whether a CUBE in this cell makes a WHOLE with all but one (-1: with all), if those are WHOLE. */
        boolean holdsOn(int at, int but) {
            int others = has(but) ? size - 1 : size;
            if (others == 0) {
                return levelOf(at) == 0;
            }
            for (int way = 0; way < FIRST_TURN; way++) {
                int next = inCell(at + GOES[way]);
                if (next >= 0 && next != but) {
                    return true;
                }
            }
            return false;
        }

        private boolean othersAreWhole(int but) {
            int others = size - 1;
            if (others <= 0) {
                return true;
            }
            int first = but == 0 ? 1 : 0;
            int seen = (1 << but) | (1 << first);
            int found = 1;
            boolean grounded = false;
            reached[0] = first;
            for (int k = 0; k < CUBES && k < found; k++) {
                int at = cell[reached[k]];
                grounded = grounded || levelOf(at) == 0;
                for (int way = 0; way < FIRST_TURN; way++) {
                    int next = inCell(at + GOES[way]);
                    if (next >= 0 && (seen >> next & 1) == 0 && found < CUBES) {
                        seen |= 1 << next;
                        reached[found] = next;
                        found++;
                    }
                }
            }
            return grounded && found == others;
        }

        void go(int cube, int way) {
            shift(cube, cell[cube] + GOES[way]);
            power[cube] -= COST[kind[cube]];
        }

        void goBack(int cube, int way) {
            shift(cube, cell[cube] - GOES[way]);
            power[cube] += COST[kind[cube]];
        }

        private void shift(int cube, int to) {
            if (inCell(to) == FREE) {
                grid[cell[cube]] = FREE;
                grid[to] = cube;
                cell[cube] = to;
            }
        }

        boolean hangs(int at) {
            return inCell(at - FRAMED) == FREE;
        }

        int loadOf(int cube) {
            weigh();
            return load[cube];
        }

        /** Finds every LOAD: row by row from above, those that HANG ahead of the others. */
        void weigh() {
            for (int c = 0; c < size; c++) {
                load[c] = 0;
            }
            for (int y = HIGH - 1; y > 0; y--) {
                passRowOn(y, true);
                passRowOn(y, false);
            }
        }

        private void passRowOn(int y, boolean hanging) {
            for (int x = 0; x < WIDE; x++) {
                int at = cellOf(x, y);
                int cube = inCell(at);
                if (cube >= 0 && hangs(at) == hanging) {
                    passOn(at, WEIGHT[kind[cube]] + load[cube]);
                }
            }
        }

        private void passOn(int at, int all) {
            int below = inCell(at - FRAMED);
            if (below >= 0) {
                load[below] += all;
                return;
            }
            int east = inCell(at + 1);
            int west = inCell(at - 1);
            int eastern = east < 0 ? 0 : west < 0 ? all : all / 2;
            if (east >= 0) {
                load[east] += eastern;
            }
            if (west >= 0) {
                load[west] += all - eastern;
            }
        }

        int countDead() {
            int found = 0;
            for (int c = 0; c < size; c++) {
                found += oneIf(dead[c]);
            }
            return found;
        }

        int wholePower() {
            int all = 0;
            for (int c = 0; c < size; c++) {
                all += power[c];
            }
            return all;
        }

        int wholeWeight() {
            int all = 0;
            for (int c = 0; c < size; c++) {
                all += WEIGHT[kind[c]];
            }
            return all;
        }
    }

    /** Notes on who was DEAD, or well, and when: THE LOG is one such list, the REPORTS another. */
    private static final class Notes {
        int size;
        private final int[] who = new int[NOTES];
        private final int[] when = new int[NOTES];
        private final boolean[] saysDead = new boolean[NOTES];

        void copyFrom(Notes other) {
            size = other.size;
            System.arraycopy(other.who, 0, who, 0, NOTES);
            System.arraycopy(other.when, 0, when, 0, NOTES);
            System.arraycopy(other.saysDead, 0, saysDead, 0, NOTES);
        }

        int note(int cube, int tick, boolean dead) {
            if (size >= NOTES) {
                return NO_ROOM;
            }
            who[size] = cube;
            when[size] = tick;
            saysDead[size] = dead;
            size++;
            return size - 1;
        }

        int firstOf(int e) {
            return e < 0 || e > size ? size : e;
        }

        /** What the note of the latest tick up to this one says, of the first of all notes; well without one. */
        boolean tellDead(int cube, int tick, int first) {
            int latest = -1;
            boolean dead = false;
            for (int k = 0; k < first && k < size; k++) {
                if (who[k] == cube && when[k] <= tick && when[k] >= latest) {
                    latest = when[k];
                    dead = saysDead[k];
                }
            }
            return dead;
        }

        /** The first tick behind this one, ahead of a limit, of which something is noted; else the limit. */
        int nextNoted(int cube, int tick, int limit) {
            int next = limit;
            for (int k = 0; k < size; k++) {
                if (who[k] == cube && when[k] > tick && when[k] < next) {
                    next = when[k];
                }
            }
            return next;
        }
    }

    /** All that THE IMAGE keeps. */
    private static final class World {
        final Body body = new Body();
        int time;
        final int[] memory = new int[CUBES];
        final int[] said = new int[CUBES];
        final int[] heard = new int[CUBES];
        final int[] runs = new int[CUBES];
        int shapes;
        private final long[] shapeCells = new long[SHAPES * 2];
        int programs;
        final int[][] programText = new int[PROGRAMS][LONGEST];
        final int[] programSize = new int[PROGRAMS];
        final Notes log = new Notes();
        final Notes reports = new Notes();

        void copyFrom(World other) {
            body.copyFrom(other.body);
            time = other.time;
            System.arraycopy(other.memory, 0, memory, 0, CUBES);
            System.arraycopy(other.said, 0, said, 0, CUBES);
            System.arraycopy(other.heard, 0, heard, 0, CUBES);
            System.arraycopy(other.runs, 0, runs, 0, CUBES);
            shapes = other.shapes;
            System.arraycopy(other.shapeCells, 0, shapeCells, 0, SHAPES * 2);
            programs = other.programs;
            for (int p = 0; p < PROGRAMS; p++) {
                System.arraycopy(other.programText[p], 0, programText[p], 0, LONGEST);
            }
            System.arraycopy(other.programSize, 0, programSize, 0, PROGRAMS);
            log.copyFrom(other.log);
            reports.copyFrom(other.reports);
        }

        int addCube(int kind, int at, int power) {
            int cube = body.size;
            if (cube >= CUBES) {
                return NO_ROOM;
            }
            body.place(kind, at, power);
            memory[cube] = 0;
            said[cube] = 0;
            heard[cube] = 0;
            runs[cube] = -1;
            return cube;
        }

        int addShape(long lower, long upper) {
            if (shapes >= SHAPES) {
                return NO_ROOM;
            }
            shapeCells[shapes * 2] = lower;
            shapeCells[shapes * 2 + 1] = upper;
            shapes++;
            return shapes - 1;
        }

        int addProgram(Shelf text) {
            if (programs >= PROGRAMS) {
                return NO_ROOM;
            }
            System.arraycopy(text.elements, 0, programText[programs], 0, LONGEST);
            programSize[programs] = text.size;
            programs++;
            return programs - 1;
        }

        boolean hasShape(int shape) {
            return shape >= 0 && shape < shapes;
        }

        boolean shapeHolds(int shape, int x, int y) {
            long half = shapeCells[shape * 2 + y / HALF_HIGH];
            return (half >> (y % HALF_HIGH * WIDE + x) & 1) != 0;
        }

        int cellsInShape(int shape) {
            return Long.bitCount(shapeCells[shape * 2]) + Long.bitCount(shapeCells[shape * 2 + 1]);
        }

        int outsideShape(int shape) {
            int outside = 0;
            for (int c = 0; c < body.size; c++) {
                outside += oneIf(!shapeHolds(shape, columnOf(body.cell[c]), levelOf(body.cell[c])));
            }
            return outside;
        }

        int emptyInShape(int shape) {
            return cellsInShape(shape) - (body.size - outsideShape(shape));
        }

        boolean isRunning(int cube) {
            return !body.dead[cube] && runs[cube] >= 0 && runs[cube] < programs;
        }

        void sharePower() {
            for (int c = 0; c < body.size; c++) {
                int poorest = body.dead[c] ? -1 : poorestBeside(c);
                if (poorest >= 0 && body.power[poorest] <= body.power[c] - 2) {
                    body.power[poorest]++;
                    body.power[c]--;
                }
            }
        }

        private int poorestBeside(int cube) {
            int poorest = -1;
            for (int way = 0; way < FIRST_TURN; way++) {
                int next = body.inCell(body.cell[cube] + GOES[way]);
                if (next >= 0 && !body.dead[next] && (poorest < 0 || body.power[next] < body.power[poorest])) {
                    poorest = next;
                }
            }
            return poorest;
        }

        void endTick() {
            for (int c = 0; c < body.size; c++) {
                heard[c] = said[c];
                said[c] = 0;
            }
            time++;
        }

        boolean isTick(int tick) {
            return tick >= 0 && tick <= time;
        }

        boolean mayBelieve(int e) {
            return e >= -1 && e <= reports.size;
        }

        /** Goes from one noted tick to the next, as nothing changes between: far fewer than all ticks. */
        int wrongTicks(int cube, int first) {
            int wrong = 0;
            int tick = 0;
            for (int k = 0; k <= 2 * NOTES && tick < time; k++) {
                int next = log.nextNoted(cube, tick, reports.nextNoted(cube, tick, time));
                if (reports.tellDead(cube, tick, first) != log.tellDead(cube, tick, log.size)) {
                    wrong += next - tick;
                }
                tick = next;
            }
            return wrong;
        }
    }

    /** Looks for THE PLAN, on a body of its own. */
    private static final class Planner {
        private final Body body;
        private final boolean[] wanted = new boolean[AREA];
        private final int[] found = new int[LONGEST_PLAN];

        Planner(Body trial) {
            body = trial;
        }

        int moveOf(int i) {
            return i >= 0 && i < LONGEST_PLAN ? found[i] : NONE;
        }

        /** How many MOVES THE PLAN has; fewer than cells are empty can't do, as each MOVE fills one at most. */
        int find(World world, int shape, int most) {
            int empty = world.emptyInShape(shape);
            if (empty != world.outsideShape(shape)) {
                return NONE;
            }
            body.copyFrom(world.body);
            for (int x = 0; x < WIDE; x++) {
                for (int y = 0; y < HIGH; y++) {
                    wanted[cellOf(x, y)] = world.shapeHolds(shape, x, y);
                }
            }
            for (int length = empty; length <= most; length++) {
                if (completes(0, length, empty)) {
                    return length;
                }
            }
            return NONE;
        }

        /** Tries all MOVES by their numbers, so the first row that leads to the SHAPE is the least. */
        private boolean completes(int done, int length, int empty) {
            if (done >= length) {
                return empty == 0;
            }
            for (int cube = 0; cube < PLANNED_CUBES && cube < body.size; cube++) {
                for (int way = 0; way < WAYS; way++) {
                    int then = emptyBehind(cube, way, empty);
                    if (then < length - done && body.mayGo(cube, way)) {
                        found[done] = WAYS * cube + way;
                        body.go(cube, way);
                        boolean complete = completes(done + 1, length, then);
                        body.goBack(cube, way);
                        if (complete) {
                            return true;
                        }
                    }
                }
            }
            return false;
        }

        private int emptyBehind(int cube, int way, int empty) {
            int from = body.cell[cube];
            return empty + oneIf(isWanted(from)) - oneIf(isWanted(from + GOES[way]));
        }

        private boolean isWanted(int at) {
            return at >= 0 && at < AREA && wanted[at];
        }
    }

    /** Goes along a text; what comes behind its end, or behind a FAULT, is END. */
    private abstract static class TextReader {
        private int[] text = NO_TEXT;
        private int size;
        private int place;
        private int fault = -1;

        final void open(int[] newText, int newSize) {
            text = newText;
            size = newSize < newText.length ? newSize : newText.length;
            place = 0;
            fault = -1;
        }

        final boolean atEnd() {
            return place >= size;
        }

        final int look() {
            return fault < 0 && place >= 0 && place < size ? text[place] : END;
        }

        final int take() {
            int sign = look();
            if (sign != END) {
                place++;
            }
            return sign;
        }

        final boolean takeIf(char sign) {
            boolean is = look() == sign;
            if (is) {
                place++;
            }
            return is;
        }

        final void demand(char sign) {
            if (!takeIf(sign)) {
                fail();
            }
        }

        final int demandDigit(int least, int most) {
            int digit = look() - '0';
            if (digit < least || digit > most) {
                fail();
                return least;
            }
            place++;
            return digit;
        }

        final boolean isDigit() {
            return look() >= '0' && look() <= '9';
        }

        final boolean isPlusOrMinus() {
            return look() == '+' || look() == '-';
        }

        final void fail() {
            if (fault < 0) {
                fault = place;
            }
        }

        final void failUnlessAtEnd() {
            if (!atEnd()) {
                fail();
            }
        }

        final boolean isFaulty() {
            return fault >= 0;
        }

        final int faultPlace() {
            return fault;
        }
    }

    /** Reads a SHAPE: the cells of one half of the grid at a time, as a set of bits. */
    private static final class ShapeReader extends TextReader {

        long cellsOf(Shelf row, int half) {
            open(row.elements, row.size);
            long cells = readParts(0, half);
            failUnlessAtEnd();
            return cells;
        }

        private long readParts(int deep, int half) {
            long cells = readPart(deep, half);
            for (int k = 0; k < LONGEST && (isPlusOrMinus() || look() == '&'); k++) {
                int sign = take();
                long more = readPart(deep, half);
                cells = sign == '+' ? cells | more : sign == '-' ? cells & ~more : cells & more;
            }
            return cells;
        }

        /** A row of ! is counted here: reading each by a call of its own could go 90 deep. */
        private long readPart(int deep, int half) {
            boolean not = false;
            for (int k = 0; k < LONGEST && takeIf('!'); k++) {
                not = !not;
            }
            long cells = readBoxOrBracket(deep, half);
            return not ? HALF_FULL & ~cells : cells;
        }

        private long readBoxOrBracket(int deep, int half) {
            if (deep < DEEPEST && takeIf('(')) {
                long cells = readParts(deep + 1, half);
                demand(')');
                return cells;
            }
            if (takeIf('b')) {
                return readBox(half, false);
            }
            if (takeIf('o')) {
                return readBox(half, true);
            }
            fail();
            return 0;
        }

        private long readBox(int half, boolean border) {
            int x0 = demandDigit(0, WIDE - 1);
            int y0 = demandDigit(0, HIGH - 1);
            int x1 = demandDigit(x0, WIDE - 1);
            int y1 = demandDigit(y0, HIGH - 1);
            long cells = 0;
            for (int x = x0; x <= x1 && x < WIDE; x++) {
                for (int y = y0; y <= y1 && y < HIGH; y++) {
                    boolean atBorder = x == x0 || x == x1 || y == y0 || y == y1;
                    if (y / HALF_HIGH == half && (atBorder || !border)) {
                        cells |= 1L << (y % HALF_HIGH * WIDE + x);
                    }
                }
            }
            return cells;
        }
    }

    /** Looks whether a text is a PROGRAM. */
    private static final class ProgramReader extends TextReader {

        void check(Shelf row) {
            open(row.elements, row.size);
            for (int k = 0; k < RULES && (k == 0 || !atEnd()); k++) {
                readRule();
            }
            failUnlessAtEnd();
        }

        private void readRule() {
            readCheck();
            for (int k = 0; k < LONGEST && takeIf('&'); k++) {
                readCheck();
            }
            demand('?');
            readAct();
            demand(';');
        }

        private void readCheck() {
            readSum();
            if (!takeIf('<') && !takeIf('>')) {
                demand('=');
            }
            readSum();
        }

        private void readSum() {
            readAtom();
            for (int k = 0; k < LONGEST && isPlusOrMinus(); k++) {
                take();
                readAtom();
            }
        }

        private void readAtom() {
            if (takeIf('0')) {
                return;
            }
            if (isDigit()) {
                take();
                if (isDigit()) {
                    take();
                }
                return;
            }
            if (isField(look())) {
                take();
            } else {
                fail();
            }
        }

        private static boolean isField(int sign) {
            switch (sign) {
                case 'n': case 'e': case 's': case 'w':
                case 'N': case 'E': case 'S': case 'W':
                case 'p': case 't': case 'm':
                    return true;
                default:
                    return false;
            }
        }

        private void readAct() {
            if (takeIf('g')) {
                demandDigit(0, WAYS - 1);
            } else if (takeIf('y') || takeIf('=')) {
                readSum();
            } else {
                fail();
            }
        }
    }

    /** Runs the PROGRAMS of a world's CUBES, from their texts, which are known to be PROGRAMS. */
    private static final class Mind extends TextReader {
        private final World world;

        Mind(World newWorld) {
            world = newWorld;
        }

        /** Does the RULES of one TICK: how many MOVES were done. */
        int runAll() {
            int done = 0;
            for (int c = 0; c < world.body.size; c++) {
                if (world.isRunning(c) && chooseRule(c) >= 0) {
                    done += act(c);
                }
            }
            return done;
        }

        /** The first RULE that holds for a CUBE with a PROGRAM; the reading stops right ahead of its ACT. */
        int chooseRule(int cube) {
            int program = world.runs[cube];
            open(world.programText[program], world.programSize[program]);
            for (int k = 0; k < RULES && !atEnd(); k++) {
                if (testHolds(cube)) {
                    return k;
                }
                passRule();
            }
            return NONE;
        }

        private void passRule() {
            boolean within = true;
            for (int k = 0; k < LONGEST && within && !atEnd(); k++) {
                within = take() != ';';
            }
        }

        private boolean testHolds(int cube) {
            boolean holds = true;
            boolean more = true;
            for (int k = 0; k < LONGEST && more; k++) {
                int left = addUp(cube);
                int sign = take();
                int right = addUp(cube);
                boolean check = sign == '<' ? left < right : sign == '>' ? left > right : left == right;
                holds = holds && check;
                more = take() == '&';
            }
            return holds;
        }

        private int addUp(int cube) {
            int all = value(cube);
            for (int k = 0; k < LONGEST && isPlusOrMinus(); k++) {
                int sign = take();
                int more = value(cube);
                all = sign == '+' ? all + more : all - more;
            }
            return all;
        }

        private int value(int cube) {
            int sign = take();
            switch (sign) {
                case 'e': return oneIf(beside(cube, 0) >= 0);
                case 'n': return oneIf(beside(cube, 1) >= 0);
                case 'w': return oneIf(beside(cube, 2) >= 0);
                case 's': return oneIf(beside(cube, 3) >= 0);
                case 'E': return heardFrom(beside(cube, 0));
                case 'N': return heardFrom(beside(cube, 1));
                case 'W': return heardFrom(beside(cube, 2));
                case 'S': return heardFrom(beside(cube, 3));
                case 'p': return world.body.power[cube];
                case 't': return world.time % 10;
                case 'm': return world.memory[cube];
                default: return isDigit() ? (sign - '0') * 10 + take() - '0' : sign - '0';
            }
        }

        private int beside(int cube, int way) {
            return world.body.inCell(world.body.cell[cube] + GOES[way]);
        }

        private int heardFrom(int cube) {
            return cube < 0 ? 0 : world.heard[cube];
        }

        /** How many MOVES were done by the ACT that is to be read next: 1 or 0. */
        private int act(int cube) {
            int sign = take();
            if (sign == 'g') {
                return goIfItCan(cube, take() - '0');
            }
            int result = Math.floorMod(addUp(cube), 100);
            if (sign == 'y') {
                world.said[cube] = result;
            } else {
                world.memory[cube] = result;
            }
            return 0;
        }

        private int goIfItCan(int cube, int way) {
            if (way < 0 || way >= WAYS || !world.body.mayGo(cube, way)) {
                return 0;
            }
            world.body.go(cube, way);
            return 1;
        }
    }

    /** A SHELF: nothing, a CUBE as it was when it was kept, or a ROW, whose SORT says what it holds. */
    private static final class Shelf {
        static final int NOTHING = -2;
        static final int CUBE = -1;
        static final int BYTES = 0;
        static final int SHORTS = 1;
        static final int INTS = 2;
        static final int ANY = 3;

        int holds = NOTHING;
        int size;
        final int[] elements = new int[LONGEST];
        private int kind;
        private int x;
        private int y;
        private int power;
        private boolean wasDead;

        void hold(int what) {
            holds = what;
            size = 0;
        }

        void holdCube(Body body, int cube) {
            hold(CUBE);
            kind = body.kind[cube];
            x = columnOf(body.cell[cube]);
            y = levelOf(body.cell[cube]);
            power = body.power[cube];
            wasDead = body.dead[cube];
        }

        void holdRow(int sort, int n) {
            hold(sort);
            size = n;
            for (int i = 0; i < LONGEST; i++) {
                elements[i] = 0;
            }
        }

        boolean isRow() {
            return holds >= BYTES;
        }

        /** Why this is no ROW of a SORT (or of ANY); 0 if it is one. */
        int refusalOfRow(int sort) {
            if (holds == NOTHING) {
                return NOTHING_HELD;
            }
            boolean is = sort == ANY ? isRow() : holds == sort;
            return is ? 0 : OTHER_KIND;
        }

        int refusalOfCube() {
            if (holds == NOTHING) {
                return NOTHING_HELD;
            }
            return holds == CUBE ? 0 : OTHER_KIND;
        }

        boolean hasPlace(int i) {
            return i >= 0 && i < size;
        }

        boolean hasPlaces(int from, int n) {
            return from >= 0 && n >= 0 && n <= size - from;
        }

        int lowestBits(int value) {
            return holds == BYTES ? (byte) value : holds == SHORTS ? (short) value : value;
        }

        int sumOfCube() {
            int all = 100 + WEIGHT[kind] + BEARS[kind];
            if (kind == STRONG) {
                all += 50;
            }
            if (kind == MOTOR || kind == PILOT) {
                all += COST[kind] + power;
            }
            return kind == PILOT ? 2 * all : all;
        }

        int placeOfCube() {
            return 8 * x + y;
        }

        /** Throws the kept CUBE's FAILURE, a PILOT's of a class of its own; returns if it has none. */
        void throwFailure() {
            if (wasDead) {
                return;
            }
            if (kind == PILOT) {
                throw new IllegalArgumentException("a pilot fails");
            }
            if (kind == STRONG || kind == MOTOR) {
                throw new IllegalStateException("a strong one or a motor fails");
            }
        }
    }
}
