import java.util.Arrays;

/** Things on a plan of cells, placed by what they hear of one another: see README.md. */
public final class HeardPlaces {
    public static final int UNKNOWN = -1, OUTSIDE = -2, STATE = -3, FULL = -4, SPENT = -6, NONE = -9;
    public static final long LOST = Long.MIN_VALUE;

    private static final int NULL = 1, CAST = 2, INDEX = 3, SIZE = 4;
    private static final int CELLS = 64, FARTHEST = 98, MOST_HOPS = 20;
    private static final int MOST_THINGS = 24, MOST_MEASURES = 60, MOST_MOVERS = 3, MOST_TICKS = 8;
    private static final int IMAGES = 2, HOLDS = 8, SHEETS = 4, LANES = 4, LONGEST = 64;
    private static final int THING = 0, ANCHOR = 1, BEACON = 2;
    private static final int FAR = 0, HEARS = 1, DEAF = 2, SIDE = 3, STEPS = 4;

    private final Desk desk = new Desk();
    private final Grid grid = new Grid();
    private final Keepers keepers = new Keepers(desk, grid);
    private final Narrowing narrowing = new Narrowing(desk, keepers);
    private final Placings groups = new Placings(desk, keepers, narrowing);
    private final Flips turns = new Flips(desk, keepers);
    private final Ways rows = new Ways(desk, grid, narrowing);
    private final Bodies bodies = new Bodies();
    private final Desk[] images = new Desk[IMAGES];
    private final boolean[] imageKept = new boolean[IMAGES];
    private final Thing[] heldThings = new Thing[HOLDS];
    private final Measure[] heldMeasures = new Measure[HOLDS];
    private final Sheet[] sheets = new Sheet[SHEETS];
    private boolean ready = false;
    private int latestTrials = 0;
    private int latestFault = 0;

    public HeardPlaces() {
        for (int k = 0; k < IMAGES; k++) {
            images[k] = new Desk();
        }
        for (int k = 0; k < SHEETS; k++) {
            sheets[k] = new Sheet();
        }
    }

    // ---- 1 the field, things

    public int field(int w, int h) {
        if (!within(w, 1, 8) || !within(h, 1, 8)) {
            return OUTSIDE;
        }
        desk.clear(w, h);
        wallsChanged();
        return w * h;
    }

    public int wall(int cell, boolean is) {
        if (!desk.isCell(cell)) {
            return UNKNOWN;
        }
        if (has(desk.anchorCells(), cell)) {
            return STATE;
        }
        if (has(desk.free, cell) != is) {
            return 0;
        }
        desk.free ^= bit(cell);
        wallsChanged();
        return 1;
    }

    public int plan(int k, int lane, int i) {
        int refusal = refusalOfRow(k, lane);
        if (refusal != 0) {
            return refusal;
        }
        Sheet from = sheets[k];
        if (!from.reaches(i, desk.width * desk.height)) {
            return faulty(INDEX);
        }
        long free = planned(from, i);
        if ((desk.anchorCells() & ~free) != 0) {
            return STATE;
        }
        desk.free = free;
        wallsChanged();
        return Long.bitCount(free);
    }

    public int thing(int kind, int cell) {
        if (!within(kind, THING, BEACON)) {
            return OUTSIDE;
        }
        if (kind != THING && !desk.isCell(cell)) {
            return UNKNOWN;
        }
        if (kind != THING && !has(desk.free, cell)) {
            return STATE;
        }
        if (desk.thingCount >= MOST_THINGS) {
            return FULL;
        }
        int number = desk.addThing(kind, kind == THING ? NONE : cell, NONE, NONE);
        changed();
        return number;
    }

    public int box(int t, int x1, int y1, int x2, int y2) {
        if (!desk.isThing(t)) {
            return UNKNOWN;
        }
        if (desk.things[t].isAnchor()) {
            return STATE;
        }
        if (!isSpan(x1, x2) || !isSpan(y1, y2)) {
            return OUTSIDE;
        }
        desk.boxes[t] = boxed(x1, y1, x2, y2);
        changed();
        return Long.bitCount(desk.toldCells(t));
    }

    public int about(int t, int what) {
        if (!desk.isThing(t)) {
            return UNKNOWN;
        }
        long narrowed = narrowed().cellsOf(t);
        switch (what) {
            case 0:
                return desk.things[t].kind;
            case 1:
                return Long.bitCount(desk.toldCells(t));
            case 2:
                return Long.bitCount(narrowed);
            case 3:
                return narrowed == 0 ? NONE : lowest(narrowed);
            case 4:
                return Long.bitCount(desk.measuresOf(t) & desk.on);
            case 5:
                return desk.mapCells[t];
            case 6:
                return has(desk.trusted, t) ? 1 : 0;
            case 7:
                return desk.things[t].mover;
            case 8:
                return desk.things[t].tick;
            default:
                return OUTSIDE;
        }
    }

    public int can(int t, int cell, int what) {
        if (!desk.isThing(t) || !desk.isCell(cell)) {
            return UNKNOWN;
        }
        if (!within(what, 0, 1)) {
            return OUTSIDE;
        }
        return has(what == 0 ? desk.toldCells(t) : narrowed().cellsOf(t), cell) ? 1 : 0;
    }

    public long cells(int t) {
        return desk.isThing(t) ? narrowed().cellsOf(t) : 0;
    }

    public int hops(int cell, int other, int r) {
        if (!desk.isCell(cell) || !desk.isCell(other)) {
            return UNKNOWN;
        }
        if (!within(r, 0, FARTHEST)) {
            return OUTSIDE;
        }
        if (!has(desk.free, cell) || !has(desk.free, other)) {
            return STATE;
        }
        return keepers.hopsBetween(cell, other, r);
    }

    // ---- 2 measures

    public int measure(int kind, int a, int b, int p, int q) {
        if (!desk.isThing(a) || !desk.isThing(b)) {
            return UNKNOWN;
        }
        if (a == b || !isTold(kind, p, q)) {
            return OUTSIDE;
        }
        if (desk.measureCount >= MOST_MEASURES) {
            return FULL;
        }
        int number = desk.addMeasure(kind, a, b, kind == HEARS || kind == DEAF ? 0 : p, kind == SIDE ? 0 : q);
        changed();
        return number;
    }

    public int measures(int k, int lane, int i, int n) {
        int refusal = refusalOfRow(k, lane);
        if (refusal != 0) {
            return refusal;
        }
        return n < 0 ? faulty(SIZE) : measuresFrom(sheets[k], i, n);
    }

    public int turn(int m, boolean is) {
        if (!desk.isMeasure(m)) {
            return UNKNOWN;
        }
        if (has(desk.on, m) == is) {
            return 0;
        }
        desk.on ^= bit(m);
        changed();
        return 1;
    }

    public int told(int m, int what) {
        if (!desk.isMeasure(m)) {
            return UNKNOWN;
        }
        Measure measure = desk.measures[m];
        switch (what) {
            case 0:
                return measure.kind;
            case 1:
                return measure.a;
            case 2:
                return measure.b;
            case 3:
                return measure.p;
            case 4:
                return measure.q;
            case 5:
                return has(desk.on, m) ? 1 : 0;
            case 6:
                return narrowed().isQuarrel() && has(narrowing.leastQuarrel(), m) ? 1 : 0;
            default:
                return OUTSIDE;
        }
    }

    public int keeps(int m, int cell, int other) {
        if (!desk.isMeasure(m) || !desk.isCell(cell) || !desk.isCell(other)) {
            return UNKNOWN;
        }
        makeReady();
        return keepers.isKept(desk.measures[m], cell, other) ? 1 : 0;
    }

    public int quarrel() {
        return narrowed().isQuarrel() ? Long.bitCount(narrowing.leastQuarrel()) : NONE;
    }

    // ---- 3 groups, placings

    public int group(int t) {
        return desk.isThing(t) ? desk.groupOf(t) : 0;
    }

    public int alone(boolean is) {
        if (desk.alone == is) {
            return 0;
        }
        desk.alone = is;
        groups.forget();
        return 1;
    }

    public int placings(int t) {
        if (!desk.isThing(t)) {
            return UNKNOWN;
        }
        boolean spent = isSpent(t);
        latestTrials = groups.trials;
        return spent ? SPENT : groups.found;
    }

    public int trials() {
        return latestTrials;
    }

    public int nth(int u, int n) {
        if (!desk.isThing(u) || n < 0) {
            return UNKNOWN;
        }
        // Whether a PLACING is too late to be there can't be told of a GROUP that is SPENT.
        if (isSpent(u)) {
            return SPENT;
        }
        return n < groups.found ? groups.cellIn(n, groups.placeOf(u)) : UNKNOWN;
    }

    public int sure(int t) {
        if (!desk.isThing(t)) {
            return UNKNOWN;
        }
        return isSpent(t) ? SPENT : groups.sureCell(groups.placeOf(t));
    }

    public int could(int t) {
        if (!desk.isThing(t)) {
            return UNKNOWN;
        }
        return isSpent(t) ? SPENT : groups.possible(groups.placeOf(t));
    }

    public int together(int t, int cell, int u, int other) {
        if (!desk.isThing(t) || !desk.isThing(u) || !desk.isCell(cell) || !desk.isCell(other)) {
            return UNKNOWN;
        }
        if (isSpent(t)) {
            return SPENT;
        }
        if (groups.placeOf(u) != NONE) {
            return groups.goTogether(groups.placeOf(t), cell, groups.placeOf(u), other) ? 1 : 0;
        }
        boolean first = groups.isPossible(groups.placeOf(t), cell);
        if (isSpent(u)) {
            return SPENT;
        }
        return first && groups.isPossible(groups.placeOf(u), other) ? 1 : 0;
    }

    public int ask(int t, int what) {
        if (!desk.isThing(t)) {
            return UNKNOWN;
        }
        if (!within(what, 0, 1)) {
            return OUTSIDE;
        }
        if (isSpent(t)) {
            return SPENT;
        }
        int best = groups.bestAsked();
        return what == 0 ? groups.members[best] : groups.worst(best);
    }

    public int between(int t, int what) {
        if (!desk.isThing(t)) {
            return UNKNOWN;
        }
        if (!within(what, 0, 2)) {
            return OUTSIDE;
        }
        if (isSpent(t)) {
            return SPENT;
        }
        return groups.size < 2 ? NONE : groups.bestBetween(what);
    }

    // ---- 4 maps

    public int put(int t, int cell) {
        if (!desk.isThing(t) || cell != NONE && !desk.isCell(cell)) {
            return UNKNOWN;
        }
        int before = desk.mapCells[t];
        desk.mapCells[t] = cell;
        return before;
    }

    public int take(int t, int n) {
        if (!desk.isThing(t) || n < 0) {
            return UNKNOWN;
        }
        if (isSpent(t)) {
            return SPENT;
        }
        if (n >= groups.found) {
            return UNKNOWN;
        }
        for (int i = 0; i < groups.size; i++) {
            desk.mapCells[groups.members[i]] = groups.cellIn(n, i);
        }
        return groups.size;
    }

    public int check() {
        int wrong = desk.firstUntold();
        if (wrong != NONE) {
            return -100 - wrong;
        }
        wrong = desk.alone ? desk.firstCrowded() : NONE;
        if (wrong != NONE) {
            return -200 - wrong;
        }
        makeReady();
        wrong = keepers.firstBroken();
        return wrong != NONE ? -20 - wrong : 1;
    }

    public int flips(int t) {
        int refusal = refusalOfFlips(t);
        if (refusal != 0) {
            return refusal;
        }
        makeReady();
        turns.seek(desk.groupOf(t), NONE);
        return turns.found;
    }

    public int flip(int t, int i, int what) {
        int refusal = refusalOfFlip(t, i);
        if (refusal != 0) {
            return refusal;
        }
        switch (what) {
            case 0:
                return turns.first;
            case 1:
                return turns.second;
            case 2:
                return turns.turning;
            case 3:
                return turns.part;
            default:
                return OUTSIDE;
        }
    }

    public int flipped(int t, int i) {
        int refusal = refusalOfFlip(t, i);
        return refusal != 0 ? refusal : turns.settleOnMap();
    }

    // ---- 5 movers, liars

    public int mover(int n, int r) {
        if (!within(n, 2, MOST_TICKS) || !within(r, 0, FARTHEST)) {
            return OUTSIDE;
        }
        if (desk.moverCount >= MOST_MOVERS || desk.thingCount + n > MOST_THINGS
                || desk.measureCount + n - 1 > MOST_MEASURES) {
            return FULL;
        }
        int number = desk.addMover(n, r);
        changed();
        return number;
    }

    public int tick(int m, int t) {
        return desk.isTick(m, t) ? desk.moverFirst[m] + t : UNKNOWN;
    }

    public long ways(int m) {
        if (!desk.isMover(m)) {
            return LOST;
        }
        makeReady();
        return rows.count(m);
    }

    public int way(int m, long n, int t) {
        if (!desk.isTick(m, t) || n < 0) {
            return UNKNOWN;
        }
        makeReady();
        return n < rows.count(m) ? rows.cellAt(m, n, t) : UNKNOWN;
    }

    public int trust(int t, boolean is) {
        if (!desk.isThing(t)) {
            return UNKNOWN;
        }
        if (has(desk.trusted, t) == is) {
            return 0;
        }
        desk.trusted ^= 1 << t;
        narrowing.forgetLiars();
        return 1;
    }

    public int liars(int what) {
        if (!within(what, 0, 1)) {
            return OUTSIDE;
        }
        narrowed().findLiars();
        if (narrowing.fewest == NONE) {
            return NONE;
        }
        return what == 0 ? narrowing.fewest : narrowing.liarSets;
    }

    public int lies(int t) {
        if (!desk.isThing(t)) {
            return UNKNOWN;
        }
        narrowed().findLiars();
        if (narrowing.fewest == NONE) {
            return NONE;
        }
        int in = narrowing.setsWith[t];
        return in == narrowing.liarSets ? 2 : in > 0 ? 1 : 0;
    }

    // ---- 6 images, holds, sheets

    public int keep(int k) {
        if (!within(k, 0, IMAGES - 1)) {
            return UNKNOWN;
        }
        images[k].becomeLike(desk);
        imageKept[k] = true;
        return 1;
    }

    public int back(int k) {
        if (!within(k, 0, IMAGES - 1)) {
            return UNKNOWN;
        }
        if (!imageKept[k]) {
            return STATE;
        }
        desk.becomeLike(images[k]);
        wallsChanged();
        return 1;
    }

    public int hold(int k, int what, int n) {
        if (!within(k, 0, HOLDS - 1)) {
            return UNKNOWN;
        }
        if (!within(what, 0, 1)) {
            return OUTSIDE;
        }
        if (what == 0 ? !desk.isThing(n) : !desk.isMeasure(n)) {
            return UNKNOWN;
        }
        heldThings[k] = what == 0 ? desk.things[n] : null;
        heldMeasures[k] = what == 1 ? desk.measures[n] : null;
        return 1;
    }

    public int loose(int k) {
        if (!within(k, 0, HOLDS - 1)) {
            return UNKNOWN;
        }
        if (isHoldEmpty(k)) {
            return 0;
        }
        heldThings[k] = null;
        heldMeasures[k] = null;
        return 1;
    }

    public int as(int k, int kind) {
        latestFault = 0;
        if (!within(k, 0, HOLDS - 1)) {
            return UNKNOWN;
        }
        if (!within(kind, 0, 8)) {
            return OUTSIDE;
        }
        if (isHoldEmpty(k)) {
            return faulty(NULL);
        }
        Thing thing = heldThings[k];
        if (thing != null) {
            return thing.kind >= kind ? thing.number : faulty(CAST);
        }
        Measure measure = heldMeasures[k];
        return measure != null && measure.isTakenAs(kind) ? measure.number : faulty(CAST);
    }

    public int tell(int k, int what) {
        int refusal = refusalOfBodies(k, what);
        if (refusal != 0) {
            return refusal;
        }
        return what == 0 ? bodies.tellingOf(heldThings[k]) : bodies.tellingOf(heldMeasures[k]);
    }

    public int greet(int k, int what) {
        int refusal = refusalOfBodies(k, what);
        if (refusal != 0) {
            return refusal;
        }
        return what == 0 ? bodies.greetingOf(heldThings[k]) : bodies.weightOf(heldMeasures[k]);
    }

    public int sheet(int k, int lane, int n) {
        latestFault = 0;
        if (!within(k, 0, SHEETS - 1)) {
            return UNKNOWN;
        }
        if (!within(lane, 0, LANES - 1) || n > LONGEST) {
            return OUTSIDE;
        }
        if (n < 0) {
            return faulty(SIZE);
        }
        sheets[k].begin(lane, n);
        return 1;
    }

    public int lose(int k) {
        if (!within(k, 0, SHEETS - 1)) {
            return UNKNOWN;
        }
        if (sheets[k].isEmpty()) {
            return 0;
        }
        sheets[k].end();
        return 1;
    }

    public int lay(int k, int i, long v) {
        latestFault = 0;
        if (!within(k, 0, SHEETS - 1)) {
            return UNKNOWN;
        }
        if (sheets[k].isEmpty()) {
            return faulty(NULL);
        }
        if (!sheets[k].reaches(i, 1)) {
            return faulty(INDEX);
        }
        sheets[k].write(i, v);
        return 1;
    }

    public long cell(int k, int i, int lane) {
        if (refusalOfRow(k, lane) != 0) {
            return LOST;
        }
        if (!sheets[k].reaches(i, 1)) {
            latestFault = INDEX;
            return LOST;
        }
        return sheets[k].row[i];
    }

    public int copy(int k, int i, int other, int j, int n) {
        latestFault = 0;
        if (!within(k, 0, SHEETS - 1) || !within(other, 0, SHEETS - 1)) {
            return UNKNOWN;
        }
        Sheet from = sheets[k];
        Sheet to = sheets[other];
        if (from.isEmpty() || to.isEmpty()) {
            return faulty(NULL);
        }
        if (from.lane != to.lane) {
            return faulty(CAST);
        }
        if (!from.reaches(i, n) || !to.reaches(j, n)) {
            return faulty(INDEX);
        }
        System.arraycopy(from.row, i, to.row, j, n);
        return n;
    }

    public int trace() {
        return bodies.trace;
    }

    public int fault() {
        return latestFault;
    }

    public int many(int what) {
        switch (what) {
            case 0:
                return Long.bitCount(desk.free);
            case 1:
                return desk.thingCount;
            case 2:
                return desk.measureCount;
            case 3:
                return Long.bitCount(desk.on);
            case 4:
                return desk.moverCount;
            case 5:
                return narrowed().thingsOnOneCell();
            case 6:
                return narrowed().sumOfCells();
            case 7:
                return Integer.bitCount(desk.thingsOnMap());
            case 8:
                return holdsInUse();
            case 9:
                return desk.alone ? 1 : 0;
            default:
                return OUTSIDE;
        }
    }

    // ---- what the calls above share

    private void changed() {
        ready = false;
        narrowing.forget();
        groups.forget();
        rows.forget();
    }

    private void wallsChanged() {
        keepers.forget();
        changed();
    }

    // NARROWING waits for the first call that needs it: many changes may come in a row.
    private void makeReady() {
        if (!ready) {
            keepers.findSteps();
            narrowing.findCells();
            ready = true;
        }
    }

    private Narrowing narrowed() {
        makeReady();
        return narrowing;
    }

    private boolean isSpent(int t) {
        makeReady();
        groups.look(t);
        return groups.spent;
    }

    private int faulty(int kind) {
        latestFault = kind;
        return -10 - kind;
    }

    /** Of a SHEET taken as a row of a LANE: a refusal, a FAULT, or 0. */
    private int refusalOfRow(int k, int lane) {
        latestFault = 0;
        if (!within(k, 0, SHEETS - 1)) {
            return UNKNOWN;
        }
        if (!within(lane, 0, LANES - 1)) {
            return OUTSIDE;
        }
        if (sheets[k].isEmpty()) {
            return faulty(NULL);
        }
        return sheets[k].lane == lane ? 0 : faulty(CAST);
    }

    private long planned(Sheet from, int i) {
        long free = 0;
        for (int y = 0; y < desk.height; y++) {
            for (int x = 0; x < desk.width; x++) {
                if (from.row[i + y * desk.width + x] == 0) {
                    free |= bit(8 * y + x);
                }
            }
        }
        return free;
    }

    private int measuresFrom(Sheet from, int i, int n) {
        int at = i;
        for (int came = 0; came < n; came++) {
            if (!from.reaches(at, 5)) {
                latestFault = INDEX;
                return came;
            }
            long[] row = from.row;
            if (measure((int) row[at], (int) row[at + 1], (int) row[at + 2], (int) row[at + 3], (int) row[at + 4]) < 0) {
                return came;
            }
            at += 5;
        }
        return n;
    }

    private int refusalOfFlips(int t) {
        if (!desk.isThing(t)) {
            return UNKNOWN;
        }
        return (desk.groupOf(t) & ~desk.thingsOnMap()) != 0 ? STATE : 0;
    }

    private int refusalOfFlip(int t, int i) {
        int refusal = refusalOfFlips(t);
        if (refusal != 0) {
            return refusal;
        }
        makeReady();
        return i >= 0 && turns.seek(desk.groupOf(t), i) ? 0 : UNKNOWN;
    }

    private int refusalOfBodies(int k, int what) {
        latestFault = 0;
        if (!within(k, 0, HOLDS - 1)) {
            return UNKNOWN;
        }
        if (!within(what, 0, 1)) {
            return OUTSIDE;
        }
        if (isHoldEmpty(k)) {
            return faulty(NULL);
        }
        boolean fits = what == 0 ? heldThings[k] != null : heldMeasures[k] != null;
        return fits ? 0 : faulty(CAST);
    }

    private boolean isHoldEmpty(int k) {
        return heldThings[k] == null && heldMeasures[k] == null;
    }

    private int holdsInUse() {
        int used = 0;
        for (int k = 0; k < HOLDS; k++) {
            used += isHoldEmpty(k) ? 0 : 1;
        }
        return used;
    }

    private static boolean within(int n, int least, int most) {
        return n >= least && n <= most;
    }

    private static boolean isSpan(int from, int to) {
        return within(from, 0, 7) && within(to, 0, 7) && from <= to;
    }

    private static boolean isTold(int kind, int p, int q) {
        switch (kind) {
            case FAR:
                return within(p, 0, FARTHEST) && within(q, 0, FARTHEST) && p <= q;
            case HEARS:
            case DEAF:
                return within(q, 0, FARTHEST);
            case SIDE:
                return within(p, 0, 3);
            case STEPS:
                return within(p, 0, MOST_HOPS) && within(q, 1, FARTHEST);
            default:
                return false;
        }
    }

    private static long boxed(int x1, int y1, int x2, int y2) {
        long set = 0;
        for (int y = y1; y <= y2; y++) {
            for (int x = x1; x <= x2; x++) {
                set |= bit(8 * y + x);
            }
        }
        return set;
    }

    private static long bit(int n) {
        return 1L << n;
    }

    private static boolean has(long set, int n) {
        return (set >>> n & 1) != 0;
    }

    private static int lowest(long set) {
        return Long.bitCount((set & -set) - 1);
    }

    private static int distance(int cell, int other) {
        int dx = (other & 7) - (cell & 7);
        int dy = (other >> 3) - (cell >> 3);
        return dx * dx + dy * dy;
    }

    /** A THING: what of it never changes, so that HOLDS and IMAGES may share it. */
    private static final class Thing {
        final int number, kind, cell, mover, tick;

        Thing(int number, int kind, int cell, int mover, int tick) {
            this.number = number;
            this.kind = kind;
            this.cell = cell;
            this.mover = mover;
            this.tick = tick;
        }

        boolean isAnchor() {
            return kind != THING;
        }
    }

    /** A MEASURE: what of it never changes, so that HOLDS and IMAGES may share it. */
    private static final class Measure {
        final int number, kind, a, b, p, q;

        Measure(int number, int kind, int a, int b, int p, int q) {
            this.number = number;
            this.kind = kind;
            this.a = a;
            this.b = b;
            this.p = p;
            this.q = q;
        }

        boolean isTakenAs(int wanted) {
            switch (wanted) {
                case 3:
                    return true;
                case 4:
                    return kind != SIDE;
                case 5:
                    return kind == HEARS || kind == DEAF || kind == STEPS;
                case 6:
                    return kind == DEAF;
                case 7:
                    return kind == SIDE;
                case 8:
                    return kind == STEPS;
                default:
                    return false;
            }
        }
    }

    /** The desk, or an IMAGE of it: all that keep() keeps. */
    private static final class Desk {
        int width, height;
        long free;
        int thingCount;
        final Thing[] things = new Thing[MOST_THINGS];
        final long[] boxes = new long[MOST_THINGS];
        final int[] mapCells = new int[MOST_THINGS];
        int trusted;
        int measureCount;
        final Measure[] measures = new Measure[MOST_MEASURES];
        long on;
        int moverCount;
        final int[] moverFirst = new int[MOST_MOVERS];
        final int[] moverTicks = new int[MOST_MOVERS];
        final int[] moverReach = new int[MOST_MOVERS];
        boolean alone;
        // Found anew by link() ahead of each use, so no IMAGE needs them.
        private final int[] links = new int[MOST_THINGS];

        Desk() {
            clear(8, 8);
        }

        void clear(int w, int h) {
            width = w;
            height = h;
            free = boxed(0, 0, w - 1, h - 1);
            thingCount = 0;
            trusted = 0;
            measureCount = 0;
            on = 0;
            moverCount = 0;
            alone = false;
        }

        void becomeLike(Desk other) {
            width = other.width;
            height = other.height;
            free = other.free;
            thingCount = other.thingCount;
            trusted = other.trusted;
            measureCount = other.measureCount;
            on = other.on;
            moverCount = other.moverCount;
            alone = other.alone;
            for (int t = 0; t < MOST_THINGS; t++) {
                things[t] = other.things[t];
                boxes[t] = other.boxes[t];
                mapCells[t] = other.mapCells[t];
            }
            for (int m = 0; m < MOST_MEASURES; m++) {
                measures[m] = other.measures[m];
            }
            for (int m = 0; m < MOST_MOVERS; m++) {
                moverFirst[m] = other.moverFirst[m];
                moverTicks[m] = other.moverTicks[m];
                moverReach[m] = other.moverReach[m];
            }
        }

        boolean isCell(int cell) {
            return within(cell, 0, CELLS - 1) && (cell & 7) < width && (cell >> 3) < height;
        }

        boolean isThing(int t) {
            return within(t, 0, thingCount - 1);
        }

        boolean isMeasure(int m) {
            return within(m, 0, measureCount - 1);
        }

        boolean isMover(int m) {
            return within(m, 0, moverCount - 1);
        }

        boolean isTick(int m, int t) {
            return isMover(m) && within(t, 0, moverTicks[m] - 1);
        }

        int addThing(int kind, int cell, int mover, int tick) {
            int t = thingCount;
            things[t] = new Thing(t, kind, cell, mover, tick);
            boxes[t] = -1L;
            mapCells[t] = NONE;
            thingCount++;
            return t;
        }

        int addMeasure(int kind, int a, int b, int p, int q) {
            int m = measureCount;
            measures[m] = new Measure(m, kind, a, b, p, q);
            on |= bit(m);
            measureCount++;
            return m;
        }

        int addMover(int n, int r) {
            int m = moverCount;
            moverFirst[m] = thingCount;
            moverTicks[m] = n;
            moverReach[m] = r;
            moverCount++;
            for (int tick = 0; tick < n; tick++) {
                int t = addThing(THING, NONE, m, tick);
                if (tick > 0) {
                    addMeasure(HEARS, t - 1, t, 0, r);
                }
            }
            return m;
        }

        long toldCells(int t) {
            return things[t].isAnchor() ? bit(things[t].cell) : free & boxes[t];
        }

        long measuresOf(int t) {
            long set = 0;
            for (int m = 0; m < measureCount; m++) {
                if (measures[m].a == t || measures[m].b == t) {
                    set |= bit(m);
                }
            }
            return set;
        }

        int anchors() {
            int set = 0;
            for (int t = 0; t < thingCount; t++) {
                set |= things[t].isAnchor() ? 1 << t : 0;
            }
            return set;
        }

        long anchorCells() {
            long set = 0;
            for (int t = 0; t < thingCount; t++) {
                set |= things[t].isAnchor() ? bit(things[t].cell) : 0;
            }
            return set;
        }

        int thingsOnMap() {
            int set = 0;
            for (int t = 0; t < thingCount; t++) {
                set |= mapCells[t] != NONE ? 1 << t : 0;
            }
            return set;
        }

        int groupOf(int t) {
            if (things[t].isAnchor()) {
                return 1 << t;
            }
            link();
            return spread(t, ~anchors());
        }

        void link() {
            Arrays.fill(links, 0);
            for (int m = 0; m < measureCount; m++) {
                if (has(on, m)) {
                    links[measures[m].a] |= 1 << measures[m].b;
                    links[measures[m].b] |= 1 << measures[m].a;
                }
            }
        }

        /** THINGS come to from t by links, through those within alone. */
        int spread(int t, int within) {
            int set = 1 << t;
            int left = set;
            for (int step = 0; step < MOST_THINGS && left != 0; step++) {
                int next = lowest(left);
                int more = links[next] & within & ~set;
                set |= more;
                left = left & left - 1 | more;
            }
            return set;
        }

        /** THINGS that are linked to some of a set, and not of it. */
        int around(int set) {
            int reached = 0;
            for (int left = set; left != 0; left &= left - 1) {
                reached |= links[lowest(left)];
            }
            return reached & ~set;
        }

        int firstUntold() {
            for (int t = 0; t < thingCount; t++) {
                if (mapCells[t] != NONE && !has(toldCells(t), mapCells[t])) {
                    return t;
                }
            }
            return NONE;
        }

        int firstCrowded() {
            long taken = 0;
            for (int t = 0; t < thingCount; t++) {
                if (mapCells[t] != NONE) {
                    if (has(taken, mapCells[t])) {
                        return t;
                    }
                    taken |= bit(mapCells[t]);
                }
            }
            return NONE;
        }
    }

    /** What holds for CELLS whatever the walls are: which lie how near, and on which side. */
    private static final class Grid {
        final long[][] near = new long[FARTHEST + 1][CELLS];
        final long[][] beside = new long[4][CELLS];

        Grid() {
            for (int cell = 0; cell < CELLS; cell++) {
                for (int other = 0; other < CELLS; other++) {
                    mark(cell, other);
                }
                for (int r = 1; r <= FARTHEST; r++) {
                    near[r][cell] |= near[r - 1][cell];
                }
            }
        }

        private void mark(int cell, int other) {
            int dx = (other & 7) - (cell & 7);
            int dy = (other >> 3) - (cell >> 3);
            near[dx * dx + dy * dy][cell] |= bit(other);
            if (dx != 0 && Math.abs(dy) <= Math.abs(dx)) {
                beside[dx > 0 ? 0 : 2][cell] |= bit(other);
            }
            if (dy != 0 && Math.abs(dx) <= Math.abs(dy)) {
                beside[dy > 0 ? 1 : 3][cell] |= bit(other);
            }
        }

        /** All CELLS at DISTANCE r at most from some of a set. */
        long around(long set, int r) {
            long reached = 0;
            for (long left = set; left != 0; left &= left - 1) {
                reached |= near[r][lowest(left)];
            }
            return reached;
        }
    }

    /** CELLS that keep a MEASURE with a given one. */
    private static final class Keepers {
        private final Desk desk;
        private final Grid grid;
        // Of each STEPS, found once till walls change; the other kinds are at hand in the grid.
        private final long[][] steps = new long[MOST_MEASURES][CELLS];
        private long stepsFound = 0;

        Keepers(Desk desk, Grid grid) {
            this.desk = desk;
            this.grid = grid;
        }

        void forget() {
            stepsFound = 0;
        }

        void findSteps() {
            for (int m = 0; m < desk.measureCount; m++) {
                Measure measure = desk.measures[m];
                if (measure.kind == STEPS && !has(stepsFound, m)) {
                    for (int cell = 0; cell < CELLS; cell++) {
                        steps[m][cell] = atHops(cell, measure.p, measure.q);
                    }
                }
                stepsFound |= bit(m);
            }
        }

        /** With the first THING of a MEASURE on a CELL (or the second): all CELLS of the other that keep it. */
        long keeping(Measure m, boolean first, int cell) {
            switch (m.kind) {
                case FAR:
                    return grid.near[m.q][cell] & ~(m.p > 0 ? grid.near[m.p - 1][cell] : 0);
                case HEARS:
                    return grid.near[m.q][cell];
                case DEAF:
                    return ~grid.near[m.q][cell];
                case SIDE:
                    return grid.beside[first ? m.p : m.p + 2 & 3][cell];
                default:
                    return steps[m.number][cell];
            }
        }

        boolean isKept(Measure m, int cell, int other) {
            return has(keeping(m, true, cell), other);
        }

        int firstBroken() {
            for (int m = 0; m < desk.measureCount; m++) {
                Measure measure = desk.measures[m];
                int cell = desk.mapCells[measure.a];
                int other = desk.mapCells[measure.b];
                if (has(desk.on, m) && cell != NONE && other != NONE && !isKept(measure, cell, other)) {
                    return m;
                }
            }
            return NONE;
        }

        int hopsBetween(int cell, int other, int r) {
            long seen = bit(cell);
            long ring = seen;
            for (int hop = 0; hop < CELLS && ring != 0; hop++) {
                if (has(ring, other)) {
                    return hop;
                }
                ring = grid.around(ring, r) & desk.free & ~seen;
                seen |= ring;
            }
            return -1;
        }

        private long atHops(int cell, int hops, int r) {
            long seen = bit(cell) & desk.free;
            long ring = seen;
            for (int hop = 0; hop < hops && ring != 0; hop++) {
                ring = grid.around(ring, r) & desk.free & ~seen;
                seen |= ring;
            }
            return ring;
        }
    }

    /** NARROWING, and what rests on it alone: THE LEAST QUARREL, LIARS. Each is found when first asked for. */
    private static final class Narrowing {
        private static final int MOST_LIARS = 2;

        private final Desk desk;
        private final Keepers keepers;
        private final long[] narrowed = new long[MOST_THINGS];
        private final long[] tried = new long[MOST_THINGS];
        private boolean quarrelThere;
        private boolean leastFound = false;
        private long least;
        private boolean liarsFound = false;
        int fewest;
        int liarSets;
        final int[] setsWith = new int[MOST_THINGS];

        Narrowing(Desk desk, Keepers keepers) {
            this.desk = desk;
            this.keepers = keepers;
        }

        void forget() {
            leastFound = false;
            liarsFound = false;
        }

        void forgetLiars() {
            liarsFound = false;
        }

        void findCells() {
            quarrelThere = settle(narrowed, desk.on, true);
        }

        long cellsOf(int t) {
            return narrowed[t];
        }

        int thingsOnOneCell() {
            int things = 0;
            for (int t = 0; t < desk.thingCount; t++) {
                things += Long.bitCount(narrowed[t]) == 1 ? 1 : 0;
            }
            return things;
        }

        int sumOfCells() {
            int sum = 0;
            for (int t = 0; t < desk.thingCount; t++) {
                sum += Long.bitCount(narrowed[t]);
            }
            return sum;
        }

        boolean isQuarrel() {
            return quarrelThere;
        }

        /** THE LEAST QUARREL as bits of MEASURES, where there is one. */
        long leastQuarrel() {
            if (!leastFound) {
                least = desk.on;
                for (int m = 0; m < desk.measureCount; m++) {
                    if (has(least, m) && settle(tried, least & ~bit(m), false)) {
                        least &= ~bit(m);
                    }
                }
                leastFound = true;
            }
            return least;
        }

        void findLiars() {
            if (liarsFound) {
                return;
            }
            liarsFound = true;
            fewest = 0;
            liarSets = 1;
            Arrays.fill(setsWith, 0);
            for (int size = 1; size <= MOST_LIARS && quarrelThere && (size == 1 || liarSets == 0); size++) {
                findSets(size, leastQuarrel());
            }
            if (liarSets == 0) {
                fewest = NONE;
            }
        }

        // A set that leaves THE LEAST QUARREL whole can't end the QUARREL, so no such set is tried.
        private void findSets(int size, long broken) {
            fewest = size;
            liarSets = 0;
            int suspects = suspects();
            for (int t = 0; t < desk.thingCount; t++) {
                long first = desk.measuresOf(t);
                int from = size == 1 ? t : t + 1;
                int to = size == 1 ? t + 1 : desk.thingCount;
                for (int u = from; u < to; u++) {
                    long without = first | desk.measuresOf(u);
                    if (has(suspects, t) && has(suspects, u) && (broken & without) != 0
                            && !settle(tried, desk.on & ~without, false)) {
                        liarSets++;
                        setsWith[t]++;
                        setsWith[u] += u == t ? 0 : 1;
                    }
                }
            }
        }

        private int suspects() {
            int set = 0;
            for (int t = 0; t < desk.thingCount; t++) {
                if (desk.things[t].kind != BEACON && !has(desk.trusted, t)) {
                    set |= 1 << t;
                }
            }
            return set;
        }

        /**
         * Narrows by the MEASURES that are used: whether some THING has no CELL.
         * Not to the end, it may stop at the first such THING.
         */
        private boolean settle(long[] sets, long used, boolean toTheEnd) {
            boolean empty = false;
            for (int t = 0; t < desk.thingCount; t++) {
                sets[t] = desk.toldCells(t);
                empty |= sets[t] == 0;
            }
            int fresh = -1;
            // Each pass but the last takes a CELL from a THING at least.
            for (int pass = 0; pass <= MOST_THINGS * CELLS && fresh != 0 && (toTheEnd || !empty); pass++) {
                int next = 0;
                for (int m = 0; m < desk.measureCount && (toTheEnd || !empty); m++) {
                    Measure measure = desk.measures[m];
                    if (has(used, m) && (has(fresh | next, measure.a) || has(fresh | next, measure.b))) {
                        next |= narrowBy(measure, sets);
                        empty |= sets[measure.a] == 0 || sets[measure.b] == 0;
                    }
                }
                fresh = next;
            }
            return empty;
        }

        /** The THINGS that lost CELLS, as bits. */
        private int narrowBy(Measure m, long[] sets) {
            long forA = supported(m, false, sets[m.b], sets[m.a]);
            long forB = supported(m, true, forA, sets[m.b]);
            int lost = (forA != sets[m.a] ? 1 << m.a : 0) | (forB != sets[m.b] ? 1 << m.b : 0);
            sets[m.a] = forA;
            sets[m.b] = forB;
            return lost;
        }

        /** Those of the CELLS asked that keep a MEASURE with some of the others. */
        private long supported(Measure m, boolean othersFirst, long others, long asked) {
            long kept = 0;
            for (long left = others; left != 0 && kept != asked; left &= left - 1) {
                int lowest = Long.bitCount((left & -left) - 1);
                kept |= keepers.keeping(m, othersFirst, lowest) & asked;
            }
            return kept;
        }
    }

    /** PLACINGS of the GROUP that was looked at last, kept till something changes. */
    private static final class Placings {
        private static final int MOST_PLACED = 9, MOST_TRIALS = 60000;

        private final Desk desk;
        private final Keepers keepers;
        private final Narrowing narrowing;
        private int group = 0;
        int size;
        final int[] members = new int[MOST_PLACED];
        boolean spent;
        int trials;
        int found;
        // A PLACING is one number: six bits for the CELL of each member.
        private final long[] rows = new long[MOST_TRIALS];
        private final long[] sets = new long[MOST_PLACED];
        private final long[][] fitting = new long[MOST_PLACED * MOST_PLACED][CELLS];
        private long shut;
        private final int[] at = new int[MOST_PLACED];
        private boolean counted;
        private final int[][] counts = new int[MOST_PLACED][CELLS];
        private boolean compared;
        private final int[] best = new int[3];
        private final int[] byDistance = new int[FARTHEST + 1];

        Placings(Desk desk, Keepers keepers, Narrowing narrowing) {
            this.desk = desk;
            this.keepers = keepers;
            this.narrowing = narrowing;
        }

        void forget() {
            group = 0;
        }

        void look(int t) {
            if (has(group, t)) {
                return;
            }
            group = desk.groupOf(t);
            size = Integer.bitCount(group);
            spent = size > MOST_PLACED;
            trials = 0;
            found = 0;
            counted = false;
            compared = false;
            if (!spent) {
                prepare();
                place(0);
            }
        }

        /** Where a THING is among the members, or NONE. */
        int placeOf(int t) {
            for (int i = 0; i < size && i < MOST_PLACED; i++) {
                if (members[i] == t) {
                    return i;
                }
            }
            return NONE;
        }

        int cellIn(int n, int i) {
            return (int) (rows[n] >>> 6 * i) & 63;
        }

        boolean isPossible(int i, int cell) {
            count();
            return counts[i][cell] > 0;
        }

        int sureCell(int i) {
            count();
            for (int cell = 0; cell < CELLS; cell++) {
                if (found > 0 && counts[i][cell] == found) {
                    return cell;
                }
            }
            return NONE;
        }

        int possible(int i) {
            count();
            int cells = 0;
            for (int cell = 0; cell < CELLS; cell++) {
                cells += counts[i][cell] > 0 ? 1 : 0;
            }
            return cells;
        }

        int worst(int i) {
            count();
            int most = 0;
            for (int cell = 0; cell < CELLS; cell++) {
                most = Math.max(most, counts[i][cell]);
            }
            return most;
        }

        int bestAsked() {
            int first = 0;
            int least = worst(0);
            for (int i = 1; i < size; i++) {
                int most = worst(i);
                if (most < least) {
                    first = i;
                    least = most;
                }
            }
            return first;
        }

        /** BETWEEN of a GROUP of two THINGS or more: the first (0), the second (1), the number (2). */
        int bestBetween(int what) {
            if (!compared) {
                compare();
                compared = true;
            }
            return best[what];
        }

        boolean goTogether(int i, int cell, int j, int other) {
            for (int n = 0; n < found; n++) {
                if (cellIn(n, i) == cell && cellIn(n, j) == other) {
                    return true;
                }
            }
            return false;
        }

        private void prepare() {
            shut = desk.alone ? cellsOfStrangers() : 0;
            int i = 0;
            for (int t = 0; t < desk.thingCount; t++) {
                if (has(group, t)) {
                    members[i] = t;
                    sets[i] = narrowing.cellsOf(t);
                    i++;
                }
            }
            for (i = 0; i < size; i++) {
                for (int j = i + 1; j < size; j++) {
                    openPair(i, j);
                }
            }
            for (int m = 0; m < desk.measureCount; m++) {
                Measure measure = desk.measures[m];
                if (has(desk.on, m) && has(group, measure.a) && has(group, measure.b)) {
                    restrict(measure);
                }
            }
        }

        private long cellsOfStrangers() {
            long set = 0;
            for (int t = 0; t < desk.thingCount; t++) {
                if (desk.things[t].isAnchor() && !has(group, t)) {
                    set |= bit(desk.things[t].cell);
                }
            }
            return set;
        }

        private void openPair(int i, int j) {
            long[] row = fitting[i * MOST_PLACED + j];
            for (int cell = 0; cell < CELLS; cell++) {
                row[cell] = desk.alone ? ~bit(cell) : -1L;
            }
        }

        private void restrict(Measure m) {
            int i = placeOf(m.a);
            int j = placeOf(m.b);
            boolean inOrder = i < j;
            int ahead = Math.min(i, j);
            long[] row = fitting[ahead * MOST_PLACED + Math.max(i, j)];
            for (long left = sets[ahead]; left != 0; left &= left - 1) {
                int cell = lowest(left);
                row[cell] &= keepers.keeping(m, inOrder, cell);
            }
        }

        /** Puts the members from level on, which is at most the last one's. */
        private void place(int level) {
            trials += Long.bitCount(sets[level]);
            if (trials > MOST_TRIALS) {
                trials = MOST_TRIALS;
                spent = true;
                return;
            }
            long left = sets[level] & ~shut;
            for (int i = 0; i < level; i++) {
                left &= fitting[i * MOST_PLACED + level][at[i]];
            }
            for (; left != 0 && !spent; left &= left - 1) {
                at[level] = lowest(left);
                if (level + 1 < size) {
                    place(level + 1);
                } else {
                    record();
                }
            }
        }

        // The last member's CELL of each PLACING is a TRIAL of its own, so the rows suffice.
        private void record() {
            long row = 0;
            for (int i = 0; i < size; i++) {
                row |= (long) at[i] << 6 * i;
            }
            if (found < MOST_TRIALS) {
                rows[found] = row;
                found++;
            }
        }

        private void count() {
            if (counted) {
                return;
            }
            counted = true;
            for (int i = 0; i < size; i++) {
                Arrays.fill(counts[i], 0);
                for (int n = 0; n < found; n++) {
                    counts[i][cellIn(n, i)]++;
                }
            }
        }

        private void compare() {
            best[2] = Integer.MAX_VALUE;
            for (int i = 0; i < size; i++) {
                for (int j = i + 1; j < size; j++) {
                    int most = mostAtOneDistance(i, j);
                    if (most < best[2]) {
                        best[0] = members[i];
                        best[1] = members[j];
                        best[2] = most;
                    }
                }
            }
        }

        private int mostAtOneDistance(int i, int j) {
            Arrays.fill(byDistance, 0);
            int most = 0;
            for (int n = 0; n < found; n++) {
                int d = distance(cellIn(n, i), cellIn(n, j));
                byDistance[d]++;
                most = Math.max(most, byDistance[d]);
            }
            return most;
        }
    }

    /** FLIPS of THE MAP, come to one by one in their order. */
    private static final class Flips {
        private static final int TURNINGS = 8;
        // A TURNING makes (dx, dy) to (XX dx + XY dy, YX dx + YY dy).
        private static final int[] XX = {1, 0, -1, 0, -1, 1, 0, 0};
        private static final int[] XY = {0, -1, 0, 1, 0, 0, 1, -1};
        private static final int[] YX = {0, 1, 0, -1, 0, 0, 1, -1};
        private static final int[] YY = {1, 0, -1, 0, 1, -1, 0, 0};

        private final Desk desk;
        private final Keepers keepers;
        private final int[] turned = new int[MOST_THINGS];
        private int wanted;
        private boolean reached;
        int found;
        int first, second, turning, part;

        Flips(Desk desk, Keepers keepers) {
            this.desk = desk;
            this.keepers = keepers;
        }

        /** Whether there is a FLIP of that number; with NONE all are come to, and counted in found. */
        boolean seek(int group, int number) {
            wanted = number;
            found = 0;
            desk.link();
            reached = false;
            int joints = (group | desk.anchors()) & desk.thingsOnMap();
            for (int j = 0; j < desk.thingCount && !reached; j++) {
                if (has(joints, j)) {
                    seekAbout(group, j, NONE);
                }
            }
            for (int j = 0; j < desk.thingCount; j++) {
                for (int other = j + 1; other < desk.thingCount && !reached; other++) {
                    if (has(joints, j) && has(joints, other)) {
                        seekAbout(group, j, other);
                    }
                }
            }
            return reached;
        }

        /** THE MAP has the FLIP that was sought last: how many THINGS moved. */
        int settleOnMap() {
            int moved = 0;
            for (int t = 0; t < desk.thingCount; t++) {
                if (has(part, t) && desk.mapCells[t] != turned[t]) {
                    desk.mapCells[t] = turned[t];
                    moved++;
                }
            }
            return moved;
        }

        private void seekAbout(int group, int j, int other) {
            int joints = 1 << j | (other != NONE ? 1 << other : 0);
            int rest = group & ~joints;
            for (int parts = 0; parts < MOST_THINGS && rest != 0; parts++) {
                int set = desk.spread(lowest(rest), rest);
                rest &= ~set;
                boolean hangs = desk.around(set) == joints;
                for (int k = 1; k < TURNINGS && hangs && !reached; k++) {
                    if (leaves(k, j, other) && canTurn(k, j, set)) {
                        comeTo(k, j, other, set);
                    }
                }
            }
        }

        private void comeTo(int k, int j, int other, int set) {
            if (found == wanted) {
                reached = true;
                first = j;
                second = other;
                turning = k;
                part = set;
            } else {
                found++;
            }
        }

        private boolean leaves(int k, int j, int other) {
            return other == NONE || turnedCell(k, desk.mapCells[j], desk.mapCells[other]) == desk.mapCells[other];
        }

        private boolean canTurn(int k, int j, int set) {
            boolean moves = false;
            for (int left = set; left != 0; left &= left - 1) {
                int t = lowest(left);
                int cell = turnedCell(k, desk.mapCells[j], desk.mapCells[t]);
                if (cell == NONE || !has(desk.toldCells(t), cell)) {
                    return false;
                }
                turned[t] = cell;
                moves |= cell != desk.mapCells[t];
            }
            return moves && (!desk.alone || isAlone(set)) && isKeeping(set);
        }

        private int turnedCell(int k, int centre, int cell) {
            int dx = (cell & 7) - (centre & 7);
            int dy = (cell >> 3) - (centre >> 3);
            int x = (centre & 7) + XX[k] * dx + XY[k] * dy;
            int y = (centre >> 3) + YX[k] * dx + YY[k] * dy;
            return within(x, 0, 7) && within(y, 0, 7) ? 8 * y + x : NONE;
        }

        private boolean isAlone(int set) {
            long taken = 0;
            for (int t = 0; t < desk.thingCount; t++) {
                if (!has(set, t) && desk.mapCells[t] != NONE) {
                    taken |= bit(desk.mapCells[t]);
                }
            }
            for (int left = set; left != 0; left &= left - 1) {
                int cell = turned[lowest(left)];
                if (has(taken, cell)) {
                    return false;
                }
                taken |= bit(cell);
            }
            return true;
        }

        private boolean isKeeping(int set) {
            for (int m = 0; m < desk.measureCount; m++) {
                Measure measure = desk.measures[m];
                if (has(desk.on, m) && (has(set, measure.a) || has(set, measure.b))
                        && !keepers.isKept(measure, cellAfter(set, measure.a), cellAfter(set, measure.b))) {
                    return false;
                }
            }
            return true;
        }

        private int cellAfter(int set, int t) {
            return has(set, t) ? turned[t] : desk.mapCells[t];
        }
    }

    /** WAYS of the MOVER that was counted last, kept till something changes. */
    private static final class Ways {
        private final Desk desk;
        private final Grid grid;
        private final Narrowing narrowing;
        // onward[tick][cell]: how many rows of CELLS go on from there to the last TICK.
        private final long[][] onward = new long[MOST_TICKS][CELLS];
        private int counted = NONE;

        Ways(Desk desk, Grid grid, Narrowing narrowing) {
            this.desk = desk;
            this.grid = grid;
            this.narrowing = narrowing;
        }

        void forget() {
            counted = NONE;
        }

        long count(int m) {
            if (counted != m) {
                for (int tick = desk.moverTicks[m] - 1; tick >= 0; tick--) {
                    countFrom(m, tick);
                }
                counted = m;
            }
            return sum(0, cellsAt(m, 0));
        }

        /** The CELL at a TICK of the n-th WAY, when the MOVER was counted and has it. */
        int cellAt(int m, long n, int wanted) {
            long left = n;
            long open = cellsAt(m, 0);
            int cell = NONE;
            for (int tick = 0; tick <= wanted; tick++) {
                if (tick > 0) {
                    open = next(m, tick - 1, cell);
                }
                cell = chosen(tick, open, left);
                left -= sum(tick, open & bit(cell) - 1);
            }
            return cell;
        }

        private void countFrom(int m, int tick) {
            boolean last = tick == desk.moverTicks[m] - 1;
            for (long left = cellsAt(m, tick); left != 0; left &= left - 1) {
                int cell = lowest(left);
                onward[tick][cell] = last ? 1 : sum(tick + 1, next(m, tick, cell));
            }
        }

        private int chosen(int tick, long open, long n) {
            long ahead = 0;
            for (long left = open; left != 0; left &= left - 1) {
                int cell = lowest(left);
                ahead += onward[tick][cell];
                if (n < ahead) {
                    return cell;
                }
            }
            return 0;
        }

        private long cellsAt(int m, int tick) {
            return narrowing.cellsOf(desk.moverFirst[m] + tick);
        }

        private long next(int m, int tick, int cell) {
            return grid.near[desk.moverReach[m]][cell] & cellsAt(m, tick + 1);
        }

        private long sum(int tick, long set) {
            long total = 0;
            for (long left = set; left != 0; left &= left - 1) {
                total += onward[tick][lowest(left)];
            }
            return total;
        }
    }

    /** A SHEET: cells are cut to the LANE when they are written, so longs serve for all. */
    private static final class Sheet {
        int lane = NONE;
        private int length = 0;
        final long[] row = new long[LONGEST];

        boolean isEmpty() {
            return lane == NONE;
        }

        void begin(int newLane, int n) {
            lane = newLane;
            length = n;
            Arrays.fill(row, 0);
        }

        void end() {
            lane = NONE;
            length = 0;
        }

        boolean reaches(int i, int n) {
            return n >= 0 && n <= length && i >= 0 && i <= length - n;
        }

        void write(int i, long v) {
            switch (lane) {
                case 0:
                    row[i] = (byte) v;
                    break;
                case 1:
                    row[i] = (short) v;
                    break;
                case 2:
                    row[i] = (int) v;
                    break;
                default:
                    row[i] = v;
            }
        }
    }

    /** The bodies that tell, greet and weigh, each leaving its number in TRACE as it begins. */
    private static final class Bodies {
        int trace = 0;

        int tellingOf(Thing t) {
            switch (t.kind) {
                case BEACON:
                    return beaconTells(t);
                case ANCHOR:
                    return anchorTells(t);
                default:
                    return thingTells(t);
            }
        }

        int tellingOf(Measure m) {
            switch (m.kind) {
                case FAR:
                    return farTells(m);
                case HEARS:
                    return hearsTells(m);
                case DEAF:
                    return deafTells(m);
                case STEPS:
                    return stepsTells(m);
                default:
                    return measureTells(m);
            }
        }

        int greetingOf(Thing t) {
            return t.kind == BEACON ? beaconGreets(t) : thingGreets(t);
        }

        int weightOf(Measure m) {
            switch (m.kind) {
                case HEARS:
                case DEAF:
                    return hearsWeighs();
                case STEPS:
                    return stepsWeighs(m);
                default:
                    return measureWeighs(m);
            }
        }

        private void leave(int number) {
            trace = 31 * trace + number;
        }

        private int thingTells(Thing t) {
            leave(1);
            return 3 * t.number;
        }

        private int anchorTells(Thing t) {
            leave(2);
            return thingTells(t) + t.cell;
        }

        private int beaconTells(Thing t) {
            leave(3);
            return anchorTells(t) + thingTells(t);
        }

        private int measureTells(Measure m) {
            leave(4);
            return m.a + m.b;
        }

        private int farTells(Measure m) {
            leave(5);
            return measureTells(m) + m.p + m.q;
        }

        private int hearsTells(Measure m) {
            leave(6);
            return farTells(m) - 1000;
        }

        private int deafTells(Measure m) {
            leave(7);
            return hearsTells(m) + measureTells(m);
        }

        private int stepsTells(Measure m) {
            leave(8);
            return 2 * farTells(m);
        }

        private int thingGreets(Thing t) {
            leave(9);
            return t.number;
        }

        private int beaconGreets(Thing t) {
            leave(10);
            return 500 + thingGreets(t);
        }

        private int measureWeighs(Measure m) {
            leave(11);
            return 10 + m.kind;
        }

        private int hearsWeighs() {
            leave(12);
            return 7;
        }

        private int stepsWeighs(Measure m) {
            leave(13);
            return hearsWeighs() + measureWeighs(m);
        }
    }
}
