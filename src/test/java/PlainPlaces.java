import java.util.ArrayList;
import java.util.Collections;
import java.util.List;
import java.util.Set;
import java.util.TreeSet;

/**
 * The document once more, in the plainest words there are: nothing is kept for later, all is found by trying all.
 * AgreeTest holds HeardPlaces against it.
 */
final class PlainPlaces {
    static final int UNKNOWN = -1, OUTSIDE = -2, STATE = -3, FULL = -4, SPENT = -6, NONE = -9;
    static final long LOST = Long.MIN_VALUE;

    // ---- the bodies, as they would be written with classes that stand on one another

    interface Greeted {
        int number();

        default int greet(PlainPlaces on) {
            on.leave(9);
            return number();
        }
    }

    interface Weighed {
        int kind();

        default int weigh(PlainPlaces on) {
            on.leave(11);
            return 10 + kind();
        }
    }

    static class Thing implements Greeted {
        int number;
        int x1 = 0, y1 = 0, x2 = 7, y2 = 7;
        boolean trusted;
        int mapCell = NONE, mover = NONE, tick = NONE;

        public int number() {
            return number;
        }

        int kind() {
            return 0;
        }

        int tell(PlainPlaces on) {
            return thingTells(on);
        }

        final int thingTells(PlainPlaces on) {
            on.leave(1);
            return 3 * number;
        }

        Thing twin() {
            return like(new Thing());
        }

        final Thing like(Thing to) {
            to.number = number;
            to.x1 = x1;
            to.y1 = y1;
            to.x2 = x2;
            to.y2 = y2;
            to.trusted = trusted;
            to.mapCell = mapCell;
            to.mover = mover;
            to.tick = tick;
            return to;
        }
    }

    static class Anchor extends Thing {
        int cell;

        Anchor(int cell) {
            this.cell = cell;
        }

        int kind() {
            return 1;
        }

        int tell(PlainPlaces on) {
            on.leave(2);
            return super.tell(on) + cell;
        }

        Thing twin() {
            return like(new Anchor(cell));
        }
    }

    static final class Beacon extends Anchor {
        Beacon(int cell) {
            super(cell);
        }

        int kind() {
            return 2;
        }

        int tell(PlainPlaces on) {
            on.leave(3);
            int above = super.tell(on);
            return above + thingTells(on);
        }

        public int greet(PlainPlaces on) {
            on.leave(10);
            return 500 + super.greet(on);
        }

        Thing twin() {
            return like(new Beacon(cell));
        }
    }

    abstract static class Measure implements Weighed {
        int number, a, b, p, q;
        boolean on = true;
        // Only to be quick: what was found for these walls.
        boolean[][] table;
        boolean[] tableWalls;

        abstract boolean kept(PlainPlaces places, int cell, int other);

        abstract Measure fresh();

        final Measure twin() {
            Measure to = fresh();
            to.number = number;
            to.a = a;
            to.b = b;
            to.p = p;
            to.q = q;
            to.on = on;
            return to;
        }

        int tell(PlainPlaces on) {
            return measureTells(on);
        }

        final int measureTells(PlainPlaces on) {
            on.leave(4);
            return a + b;
        }
    }

    static class Far extends Measure {
        public int kind() {
            return 0;
        }

        Measure fresh() {
            return new Far();
        }

        boolean kept(PlainPlaces places, int cell, int other) {
            return p <= away(cell, other) && away(cell, other) <= q;
        }

        int tell(PlainPlaces on) {
            return farTells(on);
        }

        final int farTells(PlainPlaces on) {
            on.leave(5);
            return measureTells(on) + p + q;
        }
    }

    static class Hears extends Far {
        public int kind() {
            return 1;
        }

        Measure fresh() {
            return new Hears();
        }

        boolean kept(PlainPlaces places, int cell, int other) {
            return away(cell, other) <= q;
        }

        int tell(PlainPlaces on) {
            on.leave(6);
            return super.tell(on) - 1000;
        }

        public int weigh(PlainPlaces on) {
            on.leave(12);
            return 7;
        }

        final int lentWeigh(PlainPlaces on) {
            return super.weigh(on);
        }
    }

    static final class Deaf extends Hears {
        public int kind() {
            return 2;
        }

        Measure fresh() {
            return new Deaf();
        }

        boolean kept(PlainPlaces places, int cell, int other) {
            return !super.kept(places, cell, other);
        }

        int tell(PlainPlaces on) {
            on.leave(7);
            int above = super.tell(on);
            return above + measureTells(on);
        }
    }

    static final class Side extends Measure {
        public int kind() {
            return 3;
        }

        Measure fresh() {
            return new Side();
        }

        boolean kept(PlainPlaces places, int cell, int other) {
            int dx = other % 8 - cell % 8;
            int dy = other / 8 - cell / 8;
            if (p == 0) {
                return dx > 0 && Math.abs(dy) <= dx;
            }
            if (p == 1) {
                return dy > 0 && Math.abs(dx) <= dy;
            }
            if (p == 2) {
                return dx < 0 && Math.abs(dy) <= -dx;
            }
            return dy < 0 && Math.abs(dx) <= -dy;
        }
    }

    static final class Steps extends Hears {
        public int kind() {
            return 4;
        }

        Measure fresh() {
            return new Steps();
        }

        boolean kept(PlainPlaces places, int cell, int other) {
            return places.desk.isFree(cell) && places.desk.isFree(other) && places.hopsOf(cell, other, q) == p;
        }

        int tell(PlainPlaces on) {
            on.leave(8);
            return farTells(on) * 2;
        }

        public int weigh(PlainPlaces on) {
            on.leave(13);
            int above = super.weigh(on);
            return above + lentWeigh(on);
        }
    }

    static final class Mover {
        int first, ticks, reach;
    }

    static final class Desk {
        int w = 8, h = 8;
        boolean[] walls = new boolean[64];
        List<Thing> things = new ArrayList<>();
        List<Measure> measures = new ArrayList<>();
        List<Mover> movers = new ArrayList<>();
        boolean alone;

        Desk twin() {
            Desk to = new Desk();
            to.w = w;
            to.h = h;
            to.walls = walls.clone();
            to.alone = alone;
            for (Thing t : things) {
                to.things.add(t.twin());
            }
            for (Measure m : measures) {
                to.measures.add(m.twin());
            }
            to.movers.addAll(movers);
            return to;
        }

        boolean isCell(int c) {
            return c >= 0 && c < 64 && c % 8 < w && c / 8 < h;
        }

        boolean isFree(int c) {
            return isCell(c) && !walls[c];
        }

        boolean isThing(int t) {
            return t >= 0 && t < things.size();
        }

        boolean isMeasure(int m) {
            return m >= 0 && m < measures.size();
        }

        boolean isAnchor(int t) {
            return things.get(t) instanceof Anchor;
        }
    }

    Desk desk = new Desk();
    final Desk[] images = new Desk[2];
    final Object[] holds = new Object[8];
    final Object[] sheets = new Object[4];
    int traceNow, faultNow, trialsNow;

    void leave(int n) {
        traceNow = 31 * traceNow + n;
    }

    static int away(int c, int d) {
        int dx = c % 8 - d % 8;
        int dy = c / 8 - d / 8;
        return dx * dx + dy * dy;
    }

    // Only to be quick: the last row of hops that was found.
    int[] lastHops = new int[64];
    boolean[] lastWalls;
    int lastCell, lastReach, lastSize;

    int hopsOf(int cell, int other, int r) {
        int size = 8 * desk.w + desk.h;
        if (cell != lastCell || r != lastReach || size != lastSize || !java.util.Arrays.equals(lastWalls, desk.walls)) {
            lastHops = hopsFrom(cell, r);
            lastCell = cell;
            lastReach = r;
            lastSize = size;
            lastWalls = desk.walls.clone();
        }
        return lastHops[other];
    }

    int[] hopsFrom(int cell, int r) {
        int[] hops = new int[64];
        java.util.Arrays.fill(hops, -1);
        hops[cell] = 0;
        for (int step = 0; step < 64; step++) {
            for (int c = 0; c < 64; c++) {
                for (int d = 0; d < 64 && hops[c] == step; d++) {
                    if (desk.isFree(c) && desk.isFree(d) && hops[d] < 0 && away(c, d) <= r) {
                        hops[d] = step + 1;
                    }
                }
            }
        }
        return hops;
    }

    // ---- 1

    int field(int w, int h) {
        if (w < 1 || w > 8 || h < 1 || h > 8) {
            return OUTSIDE;
        }
        desk = new Desk();
        desk.w = w;
        desk.h = h;
        return w * h;
    }

    boolean anchorStandsOn(int cell) {
        for (Thing t : desk.things) {
            if (t instanceof Anchor && ((Anchor) t).cell == cell) {
                return true;
            }
        }
        return false;
    }

    int wall(int cell, boolean is) {
        if (!desk.isCell(cell)) {
            return UNKNOWN;
        }
        if (anchorStandsOn(cell)) {
            return STATE;
        }
        int changed = desk.walls[cell] != is ? 1 : 0;
        desk.walls[cell] = is;
        return changed;
    }

    static int laneOf(Object row) {
        return row instanceof byte[] ? 0 : row instanceof short[] ? 1 : row instanceof int[] ? 2 : 3;
    }

    static int lengthOf(Object row) {
        return java.lang.reflect.Array.getLength(row);
    }

    static long valueIn(Object row, int i) {
        return java.lang.reflect.Array.getLong(row, i);
    }

    int fail(int f) {
        faultNow = f;
        return -10 - f;
    }

    int plan(int k, int lane, int i) {
        faultNow = 0;
        if (k < 0 || k > 3) {
            return UNKNOWN;
        }
        if (lane < 0 || lane > 3) {
            return OUTSIDE;
        }
        if (sheets[k] != null && laneOf(sheets[k]) != lane) {
            return fail(2);
        }
        if (sheets[k] == null) {
            return fail(1);
        }
        if (i < 0 || (long) i + desk.w * desk.h > lengthOf(sheets[k])) {
            return fail(3);
        }
        boolean[] walls = new boolean[64];
        int at = i;
        int free = 0;
        for (int y = 0; y < desk.h; y++) {
            for (int x = 0; x < desk.w; x++) {
                walls[8 * y + x] = valueIn(sheets[k], at++) != 0;
                free += walls[8 * y + x] ? 0 : 1;
            }
        }
        for (int c = 0; c < 64; c++) {
            if (walls[c] && anchorStandsOn(c)) {
                return STATE;
            }
        }
        desk.walls = walls;
        return free;
    }

    int thing(int kind, int cell) {
        if (kind < 0 || kind > 2) {
            return OUTSIDE;
        }
        if (kind > 0 && !desk.isCell(cell)) {
            return UNKNOWN;
        }
        if (kind > 0 && desk.walls[cell]) {
            return STATE;
        }
        if (desk.things.size() == 24) {
            return FULL;
        }
        Thing t = kind == 0 ? new Thing() : kind == 1 ? new Anchor(cell) : new Beacon(cell);
        t.number = desk.things.size();
        desk.things.add(t);
        return t.number;
    }

    static boolean bad(int n) {
        return n < 0 || n > 7;
    }

    int box(int t, int x1, int y1, int x2, int y2) {
        if (!desk.isThing(t)) {
            return UNKNOWN;
        }
        if (desk.isAnchor(t)) {
            return STATE;
        }
        if (bad(x1) || bad(y1) || bad(x2) || bad(y2) || x1 > x2 || y1 > y2) {
            return OUTSIDE;
        }
        Thing thing = desk.things.get(t);
        thing.x1 = x1;
        thing.y1 = y1;
        thing.x2 = x2;
        thing.y2 = y2;
        return toldOf(t).size();
    }

    Set<Integer> toldOf(int t) {
        Set<Integer> set = new TreeSet<>();
        Thing thing = desk.things.get(t);
        for (int c = 0; c < 64; c++) {
            int x = c % 8;
            int y = c / 8;
            if (thing instanceof Anchor) {
                if (((Anchor) thing).cell == c) {
                    set.add(c);
                }
            } else if (desk.isFree(c) && x >= thing.x1 && x <= thing.x2 && y >= thing.y1 && y <= thing.y2) {
                set.add(c);
            }
        }
        return set;
    }

    List<Measure> onMeasures() {
        List<Measure> list = new ArrayList<>();
        for (Measure m : desk.measures) {
            if (m.on) {
                list.add(m);
            }
        }
        return list;
    }

    List<Set<Integer>> narrow(List<Measure> used) {
        List<Set<Integer>> sets = new ArrayList<>();
        for (int t = 0; t < desk.things.size(); t++) {
            sets.add(toldOf(t));
        }
        boolean changed = true;
        boolean[][][] kept = new boolean[60][][];
        for (Measure m : used) {
            kept[m.number] = tableOf(m);
        }
        while (changed) {
            changed = false;
            for (Measure m : used) {
                boolean[][] table = kept[m.number];
                changed |= sets.get(m.a).removeIf(c -> sets.get(m.b).stream().noneMatch(d -> table[c][d]));
                changed |= sets.get(m.b).removeIf(d -> sets.get(m.a).stream().noneMatch(c -> table[c][d]));
            }
        }
        return sets;
    }

    boolean[][] tableOf(Measure m) {
        if (m.table != null && (m.kind() != 4 || java.util.Arrays.equals(m.tableWalls, desk.walls))) {
            return m.table;
        }
        m.table = new boolean[64][64];
        m.tableWalls = desk.walls.clone();
        for (int c = 0; c < 64; c++) {
            for (int d = 0; d < 64; d++) {
                m.table[c][d] = m.kept(this, c, d);
            }
        }
        return m.table;
    }

    List<Set<Integer>> narrowed() {
        return narrow(onMeasures());
    }

    int about(int t, int what) {
        if (!desk.isThing(t)) {
            return UNKNOWN;
        }
        Thing thing = desk.things.get(t);
        switch (what) {
            case 0:
                return thing.kind();
            case 1:
                return toldOf(t).size();
            case 2:
                return narrowed().get(t).size();
            case 3:
                return narrowed().get(t).isEmpty() ? NONE : Collections.min(narrowed().get(t));
            case 4:
                int n = 0;
                for (Measure m : onMeasures()) {
                    n += m.a == t || m.b == t ? 1 : 0;
                }
                return n;
            case 5:
                return thing.mapCell;
            case 6:
                return thing.trusted ? 1 : 0;
            case 7:
                return thing.mover;
            case 8:
                return thing.tick;
            default:
                return OUTSIDE;
        }
    }

    int can(int t, int cell, int what) {
        if (!desk.isThing(t) || !desk.isCell(cell)) {
            return UNKNOWN;
        }
        if (what != 0 && what != 1) {
            return OUTSIDE;
        }
        return (what == 0 ? toldOf(t) : narrowed().get(t)).contains(cell) ? 1 : 0;
    }

    long cells(int t) {
        long bits = 0;
        if (desk.isThing(t)) {
            for (int c : narrowed().get(t)) {
                bits |= 1L << c;
            }
        }
        return bits;
    }

    int hops(int cell, int other, int r) {
        if (!desk.isCell(cell) || !desk.isCell(other)) {
            return UNKNOWN;
        }
        if (r < 0 || r > 98) {
            return OUTSIDE;
        }
        if (desk.walls[cell] || desk.walls[other]) {
            return STATE;
        }
        return hopsOf(cell, other, r);
    }

    // ---- 2

    static boolean in(int n, int from, int to) {
        return n >= from && n <= to;
    }

    int measure(int kind, int a, int b, int p, int q) {
        if (!desk.isThing(a) || !desk.isThing(b)) {
            return UNKNOWN;
        }
        if (kind < 0 || kind > 4 || a == b) {
            return OUTSIDE;
        }
        if (kind == 0 && !(in(p, 0, 98) && in(q, 0, 98) && p <= q)) {
            return OUTSIDE;
        }
        if ((kind == 1 || kind == 2) && !in(q, 0, 98)) {
            return OUTSIDE;
        }
        if (kind == 3 && !in(p, 0, 3)) {
            return OUTSIDE;
        }
        if (kind == 4 && !(in(p, 0, 20) && in(q, 1, 98))) {
            return OUTSIDE;
        }
        if (desk.measures.size() == 60) {
            return FULL;
        }
        Measure m = kind == 0 ? new Far() : kind == 1 ? new Hears() : kind == 2 ? new Deaf()
            : kind == 3 ? new Side() : new Steps();
        m.a = a;
        m.b = b;
        m.p = kind == 1 || kind == 2 ? 0 : p;
        m.q = kind == 3 ? 0 : q;
        m.number = desk.measures.size();
        desk.measures.add(m);
        return m.number;
    }

    int measures(int k, int lane, int i, int n) {
        faultNow = 0;
        if (k < 0 || k > 3) {
            return UNKNOWN;
        }
        if (lane < 0 || lane > 3) {
            return OUTSIDE;
        }
        if (sheets[k] != null && laneOf(sheets[k]) != lane) {
            return fail(2);
        }
        if (sheets[k] == null) {
            return fail(1);
        }
        if (n < 0) {
            return fail(4);
        }
        for (int came = 0; came < n; came++) {
            int[] row = new int[5];
            for (int j = 0; j < 5; j++) {
                long at = (long) i + 5L * came + j;
                if (at < 0 || at >= lengthOf(sheets[k])) {
                    faultNow = 3;
                    return came;
                }
                row[j] = (int) valueIn(sheets[k], (int) at);
            }
            if (measure(row[0], row[1], row[2], row[3], row[4]) < 0) {
                return came;
            }
        }
        return n;
    }

    int turn(int m, boolean is) {
        if (!desk.isMeasure(m)) {
            return UNKNOWN;
        }
        int changed = desk.measures.get(m).on != is ? 1 : 0;
        desk.measures.get(m).on = is;
        return changed;
    }

    int told(int m, int what) {
        if (!desk.isMeasure(m)) {
            return UNKNOWN;
        }
        Measure x = desk.measures.get(m);
        switch (what) {
            case 0:
                return x.kind();
            case 1:
                return x.a;
            case 2:
                return x.b;
            case 3:
                return x.p;
            case 4:
                return x.q;
            case 5:
                return x.on ? 1 : 0;
            case 6:
                return isQuarrel(onMeasures()) && least().contains(x) ? 1 : 0;
            default:
                return OUTSIDE;
        }
    }

    int keeps(int m, int cell, int other) {
        if (!desk.isMeasure(m) || !desk.isCell(cell) || !desk.isCell(other)) {
            return UNKNOWN;
        }
        return desk.measures.get(m).kept(this, cell, other) ? 1 : 0;
    }

    boolean isQuarrel(List<Measure> used) {
        for (Set<Integer> set : narrow(used)) {
            if (set.isEmpty()) {
                return true;
            }
        }
        return false;
    }

    List<Measure> least() {
        List<Measure> stay = onMeasures();
        for (Measure m : onMeasures()) {
            List<Measure> without = new ArrayList<>(stay);
            without.remove(m);
            if (isQuarrel(without)) {
                stay = without;
            }
        }
        return stay;
    }

    int quarrel() {
        return isQuarrel(onMeasures()) ? least().size() : NONE;
    }

    // ---- 3

    List<Integer> groupOf(int t) {
        Set<Integer> set = new TreeSet<>();
        set.add(t);
        boolean grown = !desk.isAnchor(t);
        while (grown) {
            grown = false;
            for (Measure m : onMeasures()) {
                if (!desk.isAnchor(m.a) && !desk.isAnchor(m.b) && set.contains(m.a) != set.contains(m.b)) {
                    set.add(m.a);
                    set.add(m.b);
                    grown = true;
                }
            }
        }
        return new ArrayList<>(set);
    }

    int bitsOf(Iterable<Integer> things) {
        int bits = 0;
        for (int t : things) {
            bits |= 1 << t;
        }
        return bits;
    }

    int group(int t) {
        return desk.isThing(t) ? bitsOf(groupOf(t)) : 0;
    }

    int alone(boolean is) {
        int changed = desk.alone != is ? 1 : 0;
        desk.alone = is;
        return changed;
    }

    int tried;

    /** All PLACINGS, each a row of CELLS by members; null if SPENT. */
    List<int[]> search(int t) {
        tried = 0;
        List<Integer> members = groupOf(t);
        if (members.size() > 9) {
            return null;
        }
        List<int[]> rows = new ArrayList<>();
        List<boolean[][]> tables = new ArrayList<>();
        for (Measure m : onMeasures()) {
            tables.add(tableOf(m));
        }
        return place(members, narrowed(), tables, new int[members.size()], 0, rows) ? rows : null;
    }

    boolean place(List<Integer> members, List<Set<Integer>> sets, List<boolean[][]> tables, int[] at, int level,
            List<int[]> rows) {
        if (level == members.size()) {
            rows.add(at.clone());
            return true;
        }
        for (int c : sets.get(members.get(level))) {
            tried++;
            if (tried > 60000) {
                tried = 60000;
                return false;
            }
            at[level] = c;
            if (stays(members, tables, at, level) && !place(members, sets, tables, at, level + 1, rows)) {
                return false;
            }
        }
        return true;
    }

    boolean stays(List<Integer> members, List<boolean[][]> tables, int[] at, int level) {
        int n = 0;
        for (Measure m : onMeasures()) {
            boolean[][] table = tables.get(n++);
            int i = members.indexOf(m.a);
            int j = members.indexOf(m.b);
            if (i >= 0 && j >= 0 && Math.max(i, j) == level && !table[at[i]][at[j]]) {
                return false;
            }
        }
        if (desk.alone) {
            for (int i = 0; i < level; i++) {
                if (at[i] == at[level]) {
                    return false;
                }
            }
            for (Thing t : desk.things) {
                if (t instanceof Anchor && !members.contains(t.number) && ((Anchor) t).cell == at[level]) {
                    return false;
                }
            }
        }
        return true;
    }

    int placings(int t) {
        if (!desk.isThing(t)) {
            return UNKNOWN;
        }
        List<int[]> rows = search(t);
        trialsNow = tried;
        return rows == null ? SPENT : rows.size();
    }

    int trials() {
        return trialsNow;
    }

    int nth(int u, int n) {
        if (!desk.isThing(u) || n < 0) {
            return UNKNOWN;
        }
        List<int[]> rows = search(u);
        if (rows == null) {
            return SPENT;
        }
        return n < rows.size() ? rows.get(n)[groupOf(u).indexOf(u)] : UNKNOWN;
    }

    static Set<Integer> column(List<int[]> rows, int i) {
        Set<Integer> set = new TreeSet<>();
        for (int[] row : rows) {
            set.add(row[i]);
        }
        return set;
    }

    int sure(int t) {
        if (!desk.isThing(t)) {
            return UNKNOWN;
        }
        List<int[]> rows = search(t);
        if (rows == null) {
            return SPENT;
        }
        Set<Integer> set = column(rows, groupOf(t).indexOf(t));
        return set.size() == 1 ? Collections.min(set) : NONE;
    }

    int could(int t) {
        if (!desk.isThing(t)) {
            return UNKNOWN;
        }
        List<int[]> rows = search(t);
        return rows == null ? SPENT : column(rows, groupOf(t).indexOf(t)).size();
    }

    int together(int t, int cell, int u, int other) {
        if (!desk.isThing(t) || !desk.isThing(u) || !desk.isCell(cell) || !desk.isCell(other)) {
            return UNKNOWN;
        }
        List<int[]> ofT = search(t);
        List<int[]> ofU = search(u);
        if (ofT == null || ofU == null) {
            return SPENT;
        }
        int i = groupOf(t).indexOf(t);
        int j = groupOf(u).indexOf(u);
        if (groupOf(t).contains(u)) {
            for (int[] row : ofT) {
                if (row[i] == cell && row[j] == other) {
                    return 1;
                }
            }
            return 0;
        }
        return column(ofT, i).contains(cell) && column(ofU, j).contains(other) ? 1 : 0;
    }

    int ask(int t, int what) {
        if (!desk.isThing(t)) {
            return UNKNOWN;
        }
        if (what != 0 && what != 1) {
            return OUTSIDE;
        }
        List<int[]> rows = search(t);
        if (rows == null) {
            return SPENT;
        }
        int best = -1;
        int least = Integer.MAX_VALUE;
        List<Integer> members = groupOf(t);
        for (int i = 0; i < members.size(); i++) {
            int worst = 0;
            for (int c = 0; c < 64; c++) {
                int n = 0;
                for (int[] row : rows) {
                    n += row[i] == c ? 1 : 0;
                }
                worst = Math.max(worst, n);
            }
            if (worst < least) {
                least = worst;
                best = members.get(i);
            }
        }
        return what == 0 ? best : least;
    }

    int between(int t, int what) {
        if (!desk.isThing(t)) {
            return UNKNOWN;
        }
        if (what < 0 || what > 2) {
            return OUTSIDE;
        }
        List<int[]> rows = search(t);
        if (rows == null) {
            return SPENT;
        }
        List<Integer> members = groupOf(t);
        int[] best = {NONE, NONE, Integer.MAX_VALUE};
        for (int i = 0; i < members.size(); i++) {
            for (int j = i + 1; j < members.size(); j++) {
                int[] n = new int[99];
                int worst = 0;
                for (int[] row : rows) {
                    worst = Math.max(worst, ++n[away(row[i], row[j])]);
                }
                if (worst < best[2]) {
                    best = new int[] {members.get(i), members.get(j), worst};
                }
            }
        }
        return members.size() == 1 ? NONE : best[what];
    }

    // ---- 4

    int put(int t, int cell) {
        if (!desk.isThing(t) || cell != NONE && !desk.isCell(cell)) {
            return UNKNOWN;
        }
        int had = desk.things.get(t).mapCell;
        desk.things.get(t).mapCell = cell;
        return had;
    }

    int take(int t, int n) {
        if (!desk.isThing(t) || n < 0) {
            return UNKNOWN;
        }
        List<int[]> rows = search(t);
        if (rows == null) {
            return SPENT;
        }
        if (n >= rows.size()) {
            return UNKNOWN;
        }
        List<Integer> members = groupOf(t);
        for (int i = 0; i < members.size(); i++) {
            desk.things.get(members.get(i)).mapCell = rows.get(n)[i];
        }
        return members.size();
    }

    int mapCell(int t) {
        return desk.things.get(t).mapCell;
    }

    int check() {
        for (Thing t : desk.things) {
            if (t.mapCell != NONE && !toldOf(t.number).contains(t.mapCell)) {
                return -100 - t.number;
            }
        }
        for (Thing t : desk.things) {
            for (int u = 0; u < t.number && desk.alone; u++) {
                if (t.mapCell != NONE && mapCell(u) == t.mapCell) {
                    return -200 - t.number;
                }
            }
        }
        for (Measure m : onMeasures()) {
            if (mapCell(m.a) != NONE && mapCell(m.b) != NONE && !m.kept(this, mapCell(m.a), mapCell(m.b))) {
                return -20 - m.number;
            }
        }
        return 1;
    }

    static final class Flip {
        int first, second, turning;
        Set<Integer> part;
        int[] cells;
    }

    static int[] turned(int k, int dx, int dy) {
        switch (k) {
            case 1:
                return new int[] {-dy, dx};
            case 2:
                return new int[] {-dx, -dy};
            case 3:
                return new int[] {dy, -dx};
            case 4:
                return new int[] {-dx, dy};
            case 5:
                return new int[] {dx, -dy};
            case 6:
                return new int[] {dy, dx};
            case 7:
                return new int[] {-dy, -dx};
            default:
                return new int[] {dx, dy};
        }
    }

    static int turnedCell(int k, int about, int cell) {
        int[] d = turned(k, cell % 8 - about % 8, cell / 8 - about / 8);
        int x = about % 8 + d[0];
        int y = about / 8 + d[1];
        return x < 0 || x > 7 || y < 0 || y > 7 ? NONE : 8 * y + x;
    }

    /** All FLIPS of a GROUP; null if one of it has no CELL on THE MAP. */
    List<Flip> allFlips(int t) {
        List<Integer> members = groupOf(t);
        for (int u : members) {
            if (mapCell(u) == NONE) {
                return null;
            }
        }
        List<Flip> list = new ArrayList<>();
        int n = desk.things.size();
        for (int j = 0; j < n; j++) {
            addFlips(list, members, j, NONE);
        }
        for (int j = 0; j < n; j++) {
            for (int other = j + 1; other < n; other++) {
                addFlips(list, members, j, other);
            }
        }
        return list;
    }

    boolean canJoin(List<Integer> members, int j) {
        return mapCell(j) != NONE && (members.contains(j) || desk.isAnchor(j));
    }

    void addFlips(List<Flip> list, List<Integer> members, int j, int other) {
        if (!canJoin(members, j) || other != NONE && !canJoin(members, other)) {
            return;
        }
        Set<Integer> rest = new TreeSet<>(members);
        rest.remove(j);
        rest.remove(other);
        while (!rest.isEmpty()) {
            Set<Integer> part = new TreeSet<>();
            part.add(Collections.min(rest));
            boolean grown = true;
            while (grown) {
                grown = false;
                for (Measure m : onMeasures()) {
                    if (rest.contains(m.a) && rest.contains(m.b) && part.contains(m.a) != part.contains(m.b)) {
                        part.add(m.a);
                        part.add(m.b);
                        grown = true;
                    }
                }
            }
            rest.removeAll(part);
            if (isPart(part, j, other)) {
                for (int k = 1; k < 8; k++) {
                    addFlip(list, part, j, other, k);
                }
            }
        }
    }

    boolean isPart(Set<Integer> part, int j, int other) {
        boolean first = false;
        boolean second = other == NONE;
        for (Measure m : onMeasures()) {
            boolean a = part.contains(m.a);
            boolean b = part.contains(m.b);
            if (a != b) {
                int out = a ? m.b : m.a;
                if (out != j && out != other) {
                    return false;
                }
                first |= out == j;
                second |= out == other;
            }
        }
        return first && second;
    }

    void addFlip(List<Flip> list, Set<Integer> part, int j, int other, int k) {
        if (other != NONE && turnedCell(k, mapCell(j), mapCell(other)) != mapCell(other)) {
            return;
        }
        int[] after = new int[desk.things.size()];
        boolean moves = false;
        for (int t = 0; t < after.length; t++) {
            after[t] = part.contains(t) ? turnedCell(k, mapCell(j), mapCell(t)) : mapCell(t);
            moves |= after[t] != mapCell(t);
            if (part.contains(t) && !toldOf(t).contains(after[t])) {
                return;
            }
        }
        for (int t : part) {
            for (int u = 0; u < after.length && desk.alone; u++) {
                if (u != t && after[u] == after[t]) {
                    return;
                }
            }
        }
        for (Measure m : onMeasures()) {
            if ((part.contains(m.a) || part.contains(m.b)) && !m.kept(this, after[m.a], after[m.b])) {
                return;
            }
        }
        if (moves) {
            Flip f = new Flip();
            f.first = j;
            f.second = other;
            f.turning = k;
            f.part = part;
            f.cells = after;
            list.add(f);
        }
    }

    int flips(int t) {
        if (!desk.isThing(t)) {
            return UNKNOWN;
        }
        List<Flip> list = allFlips(t);
        return list == null ? STATE : list.size();
    }

    int flip(int t, int i, int what) {
        if (!desk.isThing(t)) {
            return UNKNOWN;
        }
        List<Flip> list = allFlips(t);
        if (list == null) {
            return STATE;
        }
        if (i < 0 || i >= list.size()) {
            return UNKNOWN;
        }
        Flip f = list.get(i);
        switch (what) {
            case 0:
                return f.first;
            case 1:
                return f.second;
            case 2:
                return f.turning;
            case 3:
                return bitsOf(f.part);
            default:
                return OUTSIDE;
        }
    }

    int flipped(int t, int i) {
        if (!desk.isThing(t)) {
            return UNKNOWN;
        }
        List<Flip> list = allFlips(t);
        if (list == null) {
            return STATE;
        }
        if (i < 0 || i >= list.size()) {
            return UNKNOWN;
        }
        int moved = 0;
        for (int u : list.get(i).part) {
            moved += mapCell(u) != list.get(i).cells[u] ? 1 : 0;
            desk.things.get(u).mapCell = list.get(i).cells[u];
        }
        return moved;
    }

    // ---- 5

    int mover(int n, int r) {
        if (n < 2 || n > 8 || r < 0 || r > 98) {
            return OUTSIDE;
        }
        if (desk.movers.size() == 3 || desk.things.size() + n > 24 || desk.measures.size() + n - 1 > 60) {
            return FULL;
        }
        Mover m = new Mover();
        m.first = desk.things.size();
        m.ticks = n;
        m.reach = r;
        desk.movers.add(m);
        for (int tick = 0; tick < n; tick++) {
            int t = thing(0, 0);
            desk.things.get(t).mover = desk.movers.size() - 1;
            desk.things.get(t).tick = tick;
        }
        for (int tick = 1; tick < n; tick++) {
            measure(1, m.first + tick - 1, m.first + tick, 0, r);
        }
        return desk.movers.size() - 1;
    }

    boolean isTick(int m, int t) {
        return m >= 0 && m < desk.movers.size() && t >= 0 && t < desk.movers.get(m).ticks;
    }

    int tick(int m, int t) {
        return isTick(m, t) ? desk.movers.get(m).first + t : UNKNOWN;
    }

    long waysFrom(Mover m, List<Set<Integer>> sets, int tick, int cell) {
        if (tick == m.ticks - 1) {
            return 1;
        }
        long n = 0;
        for (int c : sets.get(m.first + tick + 1)) {
            n += away(cell, c) <= m.reach ? known(m, sets, tick + 1, c) : 0;
        }
        return n;
    }

    long[][] knownWays;

    long known(Mover m, List<Set<Integer>> sets, int tick, int cell) {
        if (knownWays[tick][cell] < 0) {
            knownWays[tick][cell] = waysFrom(m, sets, tick, cell);
        }
        return knownWays[tick][cell];
    }

    long ways(int m) {
        if (m < 0 || m >= desk.movers.size()) {
            return LOST;
        }
        List<Set<Integer>> sets = narrowed();
        knownWays = new long[8][64];
        for (long[] row : knownWays) {
            java.util.Arrays.fill(row, -1);
        }
        long n = 0;
        for (int c : sets.get(desk.movers.get(m).first)) {
            n += known(desk.movers.get(m), sets, 0, c);
        }
        return n;
    }

    int way(int m, long n, int t) {
        if (!isTick(m, t) || n < 0 || n >= ways(m)) {
            return UNKNOWN;
        }
        Mover x = desk.movers.get(m);
        List<Set<Integer>> sets = narrowed();
        long left = n;
        int before = NONE;
        for (int tick = 0; tick < x.ticks; tick++) {
            for (int c : sets.get(x.first + tick)) {
                if (before != NONE && away(before, c) > x.reach) {
                    continue;
                }
                long on = known(x, sets, tick, c);
                if (left < on) {
                    before = c;
                    break;
                }
                left -= on;
            }
            if (tick == t) {
                return before;
            }
        }
        return UNKNOWN;
    }

    int trust(int t, boolean is) {
        if (!desk.isThing(t)) {
            return UNKNOWN;
        }
        int changed = desk.things.get(t).trusted != is ? 1 : 0;
        desk.things.get(t).trusted = is;
        return changed;
    }

    List<Set<Integer>> liarSets() {
        List<Set<Integer>> sets = new ArrayList<>();
        int n = desk.things.size();
        if (!isQuarrel(onMeasures())) {
            sets.add(new TreeSet<>());
            return sets;
        }
        for (int t = 0; t < n; t++) {
            addLiars(sets, t, t);
        }
        for (int t = 0; t < n && (sets.isEmpty() || sets.get(0).size() == 2); t++) {
            for (int u = t + 1; u < n; u++) {
                addLiars(sets, t, u);
            }
        }
        return sets;
    }

    void addLiars(List<Set<Integer>> sets, int t, int u) {
        Set<Integer> set = new TreeSet<>(List.of(t));
        set.add(u);
        for (int x : set) {
            if (desk.things.get(x) instanceof Beacon || desk.things.get(x).trusted) {
                return;
            }
        }
        List<Measure> left = onMeasures();
        left.removeIf(m -> set.contains(m.a) || set.contains(m.b));
        if (!isQuarrel(left)) {
            sets.add(set);
        }
    }

    int liars(int what) {
        if (what != 0 && what != 1) {
            return OUTSIDE;
        }
        List<Set<Integer>> sets = liarSets();
        return sets.isEmpty() ? NONE : what == 0 ? sets.get(0).size() : sets.size();
    }

    int lies(int t) {
        if (!desk.isThing(t)) {
            return UNKNOWN;
        }
        List<Set<Integer>> sets = liarSets();
        if (sets.isEmpty()) {
            return NONE;
        }
        int in = 0;
        for (Set<Integer> set : sets) {
            in += set.contains(t) ? 1 : 0;
        }
        return in == sets.size() ? 2 : in > 0 ? 1 : 0;
    }

    // ---- 6

    int keep(int k) {
        if (k < 0 || k > 1) {
            return UNKNOWN;
        }
        images[k] = desk.twin();
        return 1;
    }

    int back(int k) {
        if (k < 0 || k > 1) {
            return UNKNOWN;
        }
        if (images[k] == null) {
            return STATE;
        }
        desk = images[k].twin();
        return 1;
    }

    int hold(int k, int what, int n) {
        if (k < 0 || k > 7) {
            return UNKNOWN;
        }
        if (what < 0 || what > 1) {
            return OUTSIDE;
        }
        if (what == 0 ? !desk.isThing(n) : !desk.isMeasure(n)) {
            return UNKNOWN;
        }
        holds[k] = what == 0 ? desk.things.get(n) : desk.measures.get(n);
        return 1;
    }

    int loose(int k) {
        if (k < 0 || k > 7) {
            return UNKNOWN;
        }
        int had = holds[k] != null ? 1 : 0;
        holds[k] = null;
        return had;
    }

    int as(int k, int kind) {
        faultNow = 0;
        if (k < 0 || k > 7) {
            return UNKNOWN;
        }
        if (kind < 0 || kind > 8) {
            return OUTSIDE;
        }
        Class<?>[] kinds = {Thing.class, Anchor.class, Beacon.class, Measure.class, Far.class, Hears.class,
            Deaf.class, Side.class, Steps.class};
        if (holds[k] == null) {
            return fail(1);
        }
        if (!kinds[kind].isInstance(holds[k])) {
            return fail(2);
        }
        return kind < 3 ? ((Thing) holds[k]).number : ((Measure) holds[k]).number;
    }

    int bodyRefusal(int k, int what) {
        faultNow = 0;
        if (k < 0 || k > 7) {
            return UNKNOWN;
        }
        if (what < 0 || what > 1) {
            return OUTSIDE;
        }
        if (holds[k] == null) {
            return fail(1);
        }
        return what == 0 == holds[k] instanceof Thing ? 0 : fail(2);
    }

    int tell(int k, int what) {
        int refusal = bodyRefusal(k, what);
        if (refusal != 0) {
            return refusal;
        }
        return what == 0 ? ((Thing) holds[k]).tell(this) : ((Measure) holds[k]).tell(this);
    }

    int greet(int k, int what) {
        int refusal = bodyRefusal(k, what);
        if (refusal != 0) {
            return refusal;
        }
        return what == 0 ? ((Thing) holds[k]).greet(this) : ((Measure) holds[k]).weigh(this);
    }

    int sheet(int k, int lane, int n) {
        faultNow = 0;
        if (k < 0 || k > 3) {
            return UNKNOWN;
        }
        if (lane < 0 || lane > 3 || n > 64) {
            return OUTSIDE;
        }
        if (n < 0) {
            return fail(4);
        }
        sheets[k] = lane == 0 ? new byte[n] : lane == 1 ? new short[n] : lane == 2 ? new int[n] : new long[n];
        return 1;
    }

    int lose(int k) {
        if (k < 0 || k > 3) {
            return UNKNOWN;
        }
        int had = sheets[k] != null ? 1 : 0;
        sheets[k] = null;
        return had;
    }

    int lay(int k, int i, long v) {
        faultNow = 0;
        if (k < 0 || k > 3) {
            return UNKNOWN;
        }
        if (sheets[k] == null) {
            return fail(1);
        }
        if (i < 0 || i >= lengthOf(sheets[k])) {
            return fail(3);
        }
        if (sheets[k] instanceof byte[]) {
            ((byte[]) sheets[k])[i] = (byte) v;
        } else if (sheets[k] instanceof short[]) {
            ((short[]) sheets[k])[i] = (short) v;
        } else if (sheets[k] instanceof int[]) {
            ((int[]) sheets[k])[i] = (int) v;
        } else {
            ((long[]) sheets[k])[i] = v;
        }
        return 1;
    }

    long cell(int k, int i, int lane) {
        faultNow = 0;
        if (k < 0 || k > 3 || lane < 0 || lane > 3) {
            return LOST;
        }
        if (sheets[k] == null) {
            fail(1);
            return LOST;
        }
        if (laneOf(sheets[k]) != lane) {
            fail(2);
            return LOST;
        }
        if (i < 0 || i >= lengthOf(sheets[k])) {
            fail(3);
            return LOST;
        }
        return valueIn(sheets[k], i);
    }

    int copy(int k, int i, int other, int j, int n) {
        faultNow = 0;
        if (k < 0 || k > 3 || other < 0 || other > 3) {
            return UNKNOWN;
        }
        if (sheets[k] == null || sheets[other] == null) {
            return fail(1);
        }
        if (laneOf(sheets[k]) != laneOf(sheets[other])) {
            return fail(2);
        }
        if (i < 0 || j < 0 || n < 0 || (long) i + n > lengthOf(sheets[k]) || (long) j + n > lengthOf(sheets[other])) {
            return fail(3);
        }
        System.arraycopy(sheets[k], i, sheets[other], j, n);
        return n;
    }

    int trace() {
        return traceNow;
    }

    int fault() {
        return faultNow;
    }

    int many(int what) {
        int n = 0;
        switch (what) {
            case 0:
                for (int c = 0; c < 64; c++) {
                    n += desk.isFree(c) ? 1 : 0;
                }
                return n;
            case 1:
                return desk.things.size();
            case 2:
                return desk.measures.size();
            case 3:
                return onMeasures().size();
            case 4:
                return desk.movers.size();
            case 5:
                for (Set<Integer> set : narrowed()) {
                    n += set.size() == 1 ? 1 : 0;
                }
                return n;
            case 6:
                for (Set<Integer> set : narrowed()) {
                    n += set.size();
                }
                return n;
            case 7:
                for (Thing t : desk.things) {
                    n += t.mapCell != NONE ? 1 : 0;
                }
                return n;
            case 8:
                for (Object held : holds) {
                    n += held != null ? 1 : 0;
                }
                return n;
            case 9:
                return desk.alone ? 1 : 0;
            default:
                return OUTSIDE;
        }
    }
}
