import java.nio.file.Files;
import java.nio.file.Path;
import java.util.ArrayList;
import java.util.List;

/**
 * Each call with every mix of numbers at the edges of what it takes, on a desk that has nothing, one that has some of
 * all, and one that is full. Held against the order in which the call's line tells its refusals and faults: which is
 * answered, what fault() tells then, and that nothing that a later call shows has changed.
 */
public final class RefusalsTest {
    private static final int UNKNOWN = -1, OUTSIDE = -2, STATE = -3, FULL = -4, SPENT = -6, NONE = -9;
    private static final int NULL = 1, CAST = 2, INDEX = 3, SIZE = 4;
    private static final long LOST = Long.MIN_VALUE;
    private static final int MIN = Integer.MIN_VALUE, MAX = Integer.MAX_VALUE;
    private static final int BATCH = 40, PARTS = 3, MOST_CALLS = 512;
    private static final long[] SWITCH = {0, 1};

    private static int wrong = 0;
    private static long answers = 0;
    private static Desk desk;
    private static String document;

    private interface Call {
        long of(HeardPlaces x, long[] a);
    }

    private interface When {
        boolean is(long[] a);
    }

    // ---- the three desks: the calls that make them, and what they have then

    private abstract static class Desk {
        int w = 8, h = 8;
        long walls = 0;
        /** Kinds of the THINGS, by number. */
        String kinds = "";
        long anchorCells = 0;
        int measures = 0;
        int movers = 0;
        int[] ticks = {};
        /** Of each HOLD: the kinds that it may be taken as; none if it has nothing. */
        String[] holds = {"", "", "", "", "", "", "", ""};
        boolean[] kept = {false, false};
        int[] lanes = {-1, -1, -1, -1};
        long[][] rows = {{}, {}, {}, {}};
        /** Which THINGS are of a GROUP that is SPENT, of one that has one THING, of one not all on THE MAP. */
        String spent = "", single = "", offMap = "";
        boolean noLiars = false;
        int fault;
        int calls;

        abstract String name();

        /** The object; counts its calls. */
        abstract HeardPlaces make();

        boolean isThing(long t) {
            return t >= 0 && t < kinds.length();
        }

        boolean isAnchor(long t) {
            return kinds.charAt((int) t) != '0';
        }

        boolean isCell(long c) {
            return c >= 0 && c < 64 && c % 8 < w && c / 8 < h;
        }

        boolean is(String marks, long t) {
            return marks.charAt((int) t) == '1';
        }

        boolean isTick(long m, long t) {
            return m >= 0 && m < movers && t >= 0 && t < ticks[(int) m];
        }

        boolean hasRow(long k) {
            return lanes[(int) k] >= 0;
        }

        /** Whether an ANCHOR would stand on a WALL by the cells of a SHEET from i on. */
        boolean bars(long k, long i) {
            for (int y = 0; y < h; y++) {
                for (int x = 0; x < w; x++) {
                    if (rows[(int) k][(int) i + y * w + x] != 0 && (anchorCells >>> 8 * y + x & 1) != 0) {
                        return true;
                    }
                }
            }
            return false;
        }

        int lengthOf(long k) {
            return rows[(int) k].length;
        }
    }

    private static final class Nothing extends Desk {
        @Override
        String name() {
            return "nothing";
        }

        @Override
        HeardPlaces make() {
            calls = 0;
            fault = 0;
            return new HeardPlaces();
        }
    }

    private static final class Some extends Desk {
        Some() {
            w = 5;
            h = 4;
            walls = 1L << 3;
            kinds = "012000";
            anchorCells = 1L | 1L << 9;
            measures = 5;
            movers = 1;
            ticks = new int[] {2};
            holds = new String[] {"0", "01", "012", "34", "345", "3456", "3458", ""};
            kept = new boolean[] {true, false};
            lanes = new int[] {2, 0, -1, 3};
            rows = new long[][] {{0, 0, 1, 0, 98, 1, 0, 5, 0, 98, 7, 0},
                {0, 5, 0, 0, 0, 0, 0, 1, 0, 0, 0, 0, 0, 0, 0, 0, 0, 0, 0, 0, 0}, {}, {}};
            spent = "000000";
            single = "011000";
            offMap = "001110";
            fault = NULL;
        }

        @Override
        String name() {
            return "some";
        }

        @Override
        HeardPlaces make() {
            HeardPlaces x = new HeardPlaces();
            x.field(5, 4);
            x.wall(3, true);
            x.thing(0, 0);
            x.thing(1, 0);
            x.thing(2, 9);
            x.mover(2, 1);
            x.thing(0, 0);
            x.measure(0, 1, 0, 1, 4);
            x.measure(2, 2, 0, 0, 0);
            x.measure(3, 0, 5, 0, 0);
            x.measure(4, 0, 5, 2, 1);
            x.turn(3, false);
            x.box(0, 0, 0, 3, 3);
            x.put(0, 1);
            x.put(5, 17);
            x.put(1, 0);
            x.put(3, 3);
            x.trust(5, true);
            x.alone(true);
            x.keep(0);
            x.put(3, 2);
            int[][] holds = {{0, 0}, {0, 1}, {0, 2}, {1, 1}, {1, 0}, {1, 2}, {1, 4}};
            for (int k = 0; k < 7; k++) {
                x.hold(k, holds[k][0], holds[k][1]);
            }
            calls = 31 + layAll(x, this);
            x.placings(0);
            x.tell(1, 0);
            x.as(7, 0);
            return x;
        }
    }

    private static final class Full extends Desk {
        Full() {
            walls = 1L << 63;
            kinds = "121000000000000000000000";
            anchorCells = 1L | 1L << 7 | 1L << 56;
            measures = 60;
            movers = 3;
            ticks = new int[] {8, 8, 4};
            holds = new String[] {"01", "012", "01", "0", "345", "345", "345", "0"};
            kept = new boolean[] {true, true};
            lanes = new int[] {0, 1, 2, 3};
            rows = new long[4][64];
            System.arraycopy(new long[] {0, 0, 1, 0, 98}, 0, rows[2], 0, 5);
            spent = "000011111111111111111111";
            single = "111100000000000000000000";
            offMap = "010011111111111111111111";
            rows[0][1] = -3;
            noLiars = true;
            fault = INDEX;
        }

        @Override
        String name() {
            return "full";
        }

        @Override
        HeardPlaces make() {
            HeardPlaces x = new HeardPlaces();
            x.wall(63, true);
            x.thing(1, 0);
            x.thing(2, 7);
            x.thing(1, 56);
            x.thing(0, 0);
            x.mover(8, 98);
            x.mover(8, 98);
            x.mover(4, 1);
            // THINGS 4 to 19 are one GROUP: too many; 20 to 23 need too many TRIALS.
            x.measure(1, 11, 12, 0, 98);
            x.keep(0);
            // ANCHOR 0 and BEACON 1 hear each other, and can't: no liars, since 0 is TRUSTED.
            x.measure(1, 0, 1, 0, 0);
            for (int m = 19; m < 60; m++) {
                x.measure(1, 1, 2, 0, 98);
            }
            x.trust(0, true);
            x.put(0, 0);
            x.put(2, 1);
            x.put(3, 63);
            x.put(20, 5);
            x.keep(1);
            x.put(20, 6);
            int[][] holds = {{0, 0}, {0, 1}, {0, 2}, {0, 3}, {1, 0}, {1, 17}, {1, 59}, {0, 23}};
            for (int k = 0; k < 8; k++) {
                x.hold(k, holds[k][0], holds[k][1]);
            }
            calls = 70 + layAll(x, this);
            x.placings(3);
            x.tell(1, 0);
            x.lay(0, 64, 1);
            return x;
        }
    }

    /** Makes the SHEETS of a desk: how many calls that takes. */
    private static int layAll(HeardPlaces x, Desk of) {
        int calls = 0;
        for (int k = 0; k < 4; k++) {
            if (of.lanes[k] >= 0) {
                x.sheet(k, of.lanes[k], of.rows[k].length);
                calls++;
            }
            for (int i = 0; i < of.rows[k].length; i++) {
                if (of.rows[k][i] != 0) {
                    x.lay(k, i, of.rows[k][i]);
                    calls++;
                }
            }
        }
        return calls;
    }

    // ---- what later calls show of a desk, in three parts of calls

    private static List<Long> shown(HeardPlaces x, int part) {
        List<Long> all = new ArrayList<>();
        all.add((long) x.fault());
        all.add((long) x.trace());
        all.add((long) x.trials());
        showMany(x, all);
        if (part == 0) {
            showThings(x, all);
        } else if (part == 1) {
            showMeasures(x, all);
        } else {
            showRows(x, all);
        }
        return all;
    }

    private static void showMany(HeardPlaces x, List<Long> all) {
        for (int what = 0; what < 10; what++) {
            all.add((long) x.many(what));
        }
    }

    private static void showThings(HeardPlaces x, List<Long> all) {
        for (int t = 0; t < desk.kinds.length(); t++) {
            for (int what : new int[] {0, 1, 4, 5, 6, 7}) {
                all.add((long) x.about(t, what));
            }
            all.add(x.cells(t));
        }
        all.add((long) x.check());
        all.add((long) x.quarrel());
        all.add((long) x.liars(0));
        all.add((long) x.liars(1));
        for (int y = 0; y < 8; y++) {
            for (int c = 0; c < 8; c++) {
                all.add((long) x.hops(8 * y + c, 8 * y + c, 0));
            }
        }
    }

    private static void showMeasures(HeardPlaces x, List<Long> all) {
        for (int m = 0; m < desk.measures; m++) {
            for (int what : new int[] {0, 1, 4, 5}) {
                all.add((long) x.told(m, what));
            }
        }
        for (int m = 0; m < desk.movers; m++) {
            all.add(x.ways(m));
            all.add((long) x.tick(m, 1));
        }
    }

    private static void showRows(HeardPlaces x, List<Long> all) {
        for (int k = 0; k < 4; k++) {
            for (int i = 0; i < desk.lengthOf(k) + 1; i += i > 12 ? 25 : 1) {
                all.add(x.cell(k, i, Math.max(0, desk.lanes[k])));
                all.add((long) x.fault());
            }
        }
        for (int k = 0; k < 8; k++) {
            for (int kind = 0; kind < 9; kind += desk.holds[k].startsWith("0") ? 1 : 3) {
                all.add((long) x.as(k, kind));
            }
            all.add((long) x.tell(k, 0));
            all.add((long) x.tell(k, 1));
            all.add((long) x.greet(k, 0));
            all.add((long) x.greet(k, 1));
        }
        for (int k = 0; k < 2; k++) {
            all.add((long) x.back(k));
            showMany(x, all);
            for (int t : new int[] {0, 3, 20}) {
                all.add((long) x.about(t, 5));
            }
        }
    }

    // ---- a call's line

    private static final class Line {
        private final String name;
        private final Call call;
        private final long[][] values;
        private boolean namesFaults = false;
        private boolean answersLong = false;
        private boolean mayAnswerSo = false;
        private final List<When> whens = new ArrayList<>();
        private final List<Long> refusals = new ArrayList<>();
        private final List<Integer> faults = new ArrayList<>();
        private final List<long[]> refused = new ArrayList<>();
        private final List<Integer> firsts = new ArrayList<>();

        /** Of a call its name, and what its line tells of refusals and faults. */
        Line(String name, String told, Call call, long[]... values) {
            due(lineOf(name).contains(told), "the document does not tell so of " + name + "(): " + told);
            this.name = name;
            this.call = call;
            this.values = values;
        }

        Line refused(long answer, When when) {
            whens.add(when);
            refusals.add(answersLong ? LOST : answer);
            faults.add(0);
            return this;
        }

        Line fault(int fault, When when) {
            whens.add(when);
            refusals.add(answersLong ? LOST : -10L - fault);
            faults.add(fault);
            return this;
        }

        Line namesFaults() {
            namesFaults = true;
            return this;
        }

        Line answersLong() {
            answersLong = true;
            return this;
        }

        /** What it answers where it is taken may look like a refusal. */
        Line mayAnswerSo() {
            mayAnswerSo = true;
            return this;
        }

        void hold() {
            refused.clear();
            firsts.clear();
            mix(new long[values.length], 0);
            for (int from = 0; from < refused.size(); from += BATCH) {
                holdBatch(from, Math.min(refused.size(), from + BATCH));
            }
        }

        private void mix(long[] a, int at) {
            if (at < a.length) {
                for (long v : values[at]) {
                    a[at] = v;
                    mix(a, at + 1);
                }
                return;
            }
            for (int i = 0; i < whens.size(); i++) {
                if (whens.get(i).is(a)) {
                    refused.add(a.clone());
                    firsts.add(i);
                    return;
                }
            }
            holdTaken(a.clone());
        }

        private String told(long[] a) {
            StringBuilder s = new StringBuilder(desk.name()).append(": ").append(name).append('(');
            for (int i = 0; i < a.length; i++) {
                s.append(i > 0 ? ", " : "").append(a[i]);
            }
            return s.append(')').toString();
        }

        private void holdTaken(long[] a) {
            HeardPlaces x = desk.make();
            long got = call.of(x, a);
            for (int i = 0; i < refusals.size() && !mayAnswerSo; i++) {
                due(got != refusals.get(i), told(a) + " is to be taken, and answered " + got);
            }
            if (!name.equals("measures")) {
                int fault = x.fault();
                due(fault == (namesFaults ? 0 : desk.fault), told(a) + " left the fault " + fault);
            }
        }

        private void holdBatch(int from, int to) {
            for (int part = 0; part < PARTS; part++) {
                HeardPlaces x = desk.make();
                int fault = desk.fault;
                for (int n = from; n < to; n++) {
                    int first = firsts.get(n);
                    long got = call.of(x, refused.get(n));
                    due(got == refusals.get(first),
                        told(refused.get(n)) + " answered " + got + ", due is " + refusals.get(first));
                    fault = namesFaults ? faults.get(first) : fault;
                    int left = x.fault();
                    due(left == fault, told(refused.get(n)) + " left the fault " + left + ", due is " + fault);
                }
                List<Long> now = shown(x, part);
                List<Long> before = new ArrayList<>(untouched.get(part));
                before.set(0, (long) fault);
                if (name.equals("placings")) {
                    // It has looked where it answers SPENT: trials() tells of that.
                    before.set(2, now.get(2));
                }
                due(now.equals(before), told(refused.get(from)) + " or one of " + (to - from - 1)
                    + " after it changed what part " + part + " shows");
                due(desk.calls + 2 * (to - from) + now.size() <= MOST_CALLS, desk.name() + ": too many calls");
            }
        }
    }

    /** What each part shows where no call was refused. */
    private static final List<List<Long>> untouched = new ArrayList<>();

    private static void due(boolean is, String what) {
        answers++;
        if (!is) {
            wrong++;
            if (wrong < 50) {
                System.out.println(what);
            }
        }
    }

    /** What the document tells of a call, whichever promise it is. */
    private static String lineOf(String name) {
        int from = document.indexOf(": " + name + " `");
        int to = document.indexOf(" ## ", from);
        return from < 0 || to < 0 ? "" : document.substring(from, to);
    }

    private static int n(long[] a, int i) {
        return (int) a[i];
    }

    private static boolean on(long[] a, int i) {
        return a[i] != 0;
    }

    private static boolean out(long v, long least, long most) {
        return v < least || v > most;
    }

    private static long[] from(int least, int most) {
        long[] all = new long[most - least + 1];
        for (int i = 0; i < all.length; i++) {
            all[i] = least + i;
        }
        return all;
    }

    private static long[] row(long... values) {
        return values;
    }

    private static long[] ends(int least, int most) {
        return new long[] {MIN, least - 1, least, most, most + 1, MAX};
    }

    private static long[] things() {
        return ends(0, desk.kinds.length() - 1);
    }

    private static long[] allThings() {
        return from(-1, desk.kinds.length());
    }

    private static long[] cells() {
        int last = 8 * (desk.h - 1);
        return new long[] {MIN, -1, 0, desk.w - 1, desk.w, last, last + desk.w - 1, last + desk.w, last + 8, 63, 64, MAX};
    }

    // ---- the lines

    private static void field() {
        new Line("field", "how many CELLS. OUTSIDE.",
                (x, a) -> x.field(n(a, 0), n(a, 1)), row(MIN, -1, 0, 1, 8, 9, MAX), row(MIN, -1, 0, 1, 8, 9, MAX))
            .refused(OUTSIDE, a -> out(a[0], 1, 8) || out(a[1], 1, 8)).hold();
        new Line("wall", "UNKNOWN; STATE: an ANCHOR stands there.",
                (x, a) -> x.wall(n(a, 0), on(a, 1)), from(-2, 66), SWITCH)
            .refused(UNKNOWN, a -> !desk.isCell(a[0]))
            .refused(STATE, a -> (desk.anchorCells >>> a[0] & 1) != 0).hold();
        new Line("plan", "UNKNOWN; OUTSIDE: lane; CAST (nothing is no CAST); NULL; INDEX; then STATE: an ANCHOR would stand on"
                + " a WALL.",
                (x, a) -> x.plan(n(a, 0), n(a, 1), n(a, 2)), from(-1, 4), from(-1, 4),
                row(MIN, -1, 0, 1, 2, 44, 45, 64, MAX))
            .namesFaults()
            .refused(UNKNOWN, a -> out(a[0], 0, 3))
            .refused(OUTSIDE, a -> out(a[1], 0, 3))
            .fault(CAST, a -> desk.hasRow(a[0]) && desk.lanes[n(a, 0)] != a[1])
            .fault(NULL, a -> !desk.hasRow(a[0]))
            .fault(INDEX, a -> a[2] < 0 || a[2] + desk.w * desk.h > desk.lengthOf(a[0]))
            .refused(STATE, a -> desk.bars(a[0], a[2])).hold();
        new Line("thing", "OUTSIDE: kind; UNKNOWN: cell; STATE: it is a WALL; FULL.",
                (x, a) -> x.thing(n(a, 0), n(a, 1)), row(MIN, -1, 0, 1, 2, 3, MAX), from(-1, 64))
            .refused(OUTSIDE, a -> out(a[0], 0, 2))
            .refused(UNKNOWN, a -> a[0] != 0 && !desk.isCell(a[1]))
            .refused(STATE, a -> a[0] != 0 && (desk.walls >>> a[1] & 1) != 0)
            .refused(FULL, a -> desk.kinds.length() == 24).hold();
        long[] ends = {-1, 0, 3, 7, 8};
        new Line("box", "UNKNOWN; STATE: it is an ANCHOR; OUTSIDE: x1, y1, x2, y2 are not 0 .. 7, x1 is above x2, y1 above y2.",
                (x, a) -> x.box(n(a, 0), n(a, 1), n(a, 2), n(a, 3), n(a, 4)), things(), ends, ends, ends, ends)
            .refused(UNKNOWN, a -> !desk.isThing(a[0]))
            .refused(STATE, a -> desk.isAnchor(a[0]))
            .refused(OUTSIDE, a -> out(a[1], 0, 7) || out(a[2], 0, 7) || out(a[3], 0, 7) || out(a[4], 0, 7)
                || a[1] > a[3] || a[2] > a[4]).hold();
        new Line("about", "UNKNOWN; OUTSIDE.",
                (x, a) -> x.about(n(a, 0), n(a, 1)), allThings(), row(MIN, -1, 0, 8, 9, MAX))
            .refused(UNKNOWN, a -> !desk.isThing(a[0]))
            .refused(OUTSIDE, a -> out(a[1], 0, 8)).hold();
        new Line("can", "UNKNOWN: THING, cell; OUTSIDE.",
                (x, a) -> x.can(n(a, 0), n(a, 1), n(a, 2)), things(), cells(), ends(0, 1))
            .refused(UNKNOWN, a -> !desk.isThing(a[0]))
            .refused(UNKNOWN, a -> !desk.isCell(a[1]))
            .refused(OUTSIDE, a -> out(a[2], 0, 1)).hold();
        new Line("cells", "0 for UNKNOWN, too.",
                (x, a) -> x.cells(n(a, 0)), allThings()).mayAnswerSo()
            .refused(0, a -> !desk.isThing(a[0])).hold();
        new Line("hops", "UNKNOWN: a cell; OUTSIDE: r is not 0 .. 98; STATE: one is a WALL.",
                (x, a) -> x.hops(n(a, 0), n(a, 1), n(a, 2)), from(-1, 64), cells(), ends(0, 98)).mayAnswerSo()
            .refused(UNKNOWN, a -> !desk.isCell(a[0]))
            .refused(UNKNOWN, a -> !desk.isCell(a[1]))
            .refused(OUTSIDE, a -> out(a[2], 0, 98))
            .refused(STATE, a -> ((desk.walls >>> a[0] | desk.walls >>> a[1]) & 1) != 0).hold();
    }

    private static boolean isUntold(long kind, long p, long q) {
        switch ((int) kind) {
            case 0:
                return out(p, 0, 98) || out(q, 0, 98) || p > q;
            case 1:
            case 2:
                return out(q, 0, 98);
            case 3:
                return out(p, 0, 3);
            case 4:
                return out(p, 0, 20) || out(q, 1, 98);
            default:
                return true;
        }
    }

    private static void measures() {
        long[] numbers = {-1, 0, 1, 3, 4, 20, 21, 98, 99};
        new Line("measure", "UNKNOWN: THINGS; OUTSIDE: kind, both are one, p, q (of HEARS, DEAF p, of SIDE q is not looked at);"
                + " FULL.",
                (x, a) -> x.measure(n(a, 0), n(a, 1), n(a, 2), n(a, 3), n(a, 4)), from(-1, 5),
                row(-1, 0, desk.kinds.length() - 1, desk.kinds.length()), row(MIN, 0, 1, desk.kinds.length()), numbers, numbers)
            .refused(UNKNOWN, a -> !desk.isThing(a[1]))
            .refused(UNKNOWN, a -> !desk.isThing(a[2]))
            .refused(OUTSIDE, a -> a[1] == a[2] || isUntold(a[0], a[3], a[4]))
            .refused(FULL, a -> desk.measures == 60).hold();
        new Line("measures", "UNKNOWN: SHEET; OUTSIDE: lane; CAST (nothing is no CAST); NULL; SIZE: n below 0.",
                (x, a) -> x.measures(n(a, 0), n(a, 1), n(a, 2), n(a, 3)), from(-1, 4), from(-1, 4),
                row(MIN, -1, 0, 59, 60, MAX), row(MIN, -1, 0, 1, MAX))
            .namesFaults()
            .refused(UNKNOWN, a -> out(a[0], 0, 3))
            .refused(OUTSIDE, a -> out(a[1], 0, 3))
            .fault(CAST, a -> desk.hasRow(a[0]) && desk.lanes[n(a, 0)] != a[1])
            .fault(NULL, a -> !desk.hasRow(a[0]))
            .fault(SIZE, a -> a[3] < 0).hold();
        new Line("turn", "UNKNOWN.",
                (x, a) -> x.turn(n(a, 0), on(a, 1)), ends(0, desk.measures - 1), SWITCH)
            .refused(UNKNOWN, a -> out(a[0], 0, desk.measures - 1)).hold();
        new Line("told", "UNKNOWN; OUTSIDE.",
                (x, a) -> x.told(n(a, 0), n(a, 1)), ends(0, desk.measures - 1), ends(0, 6))
            .refused(UNKNOWN, a -> out(a[0], 0, desk.measures - 1))
            .refused(OUTSIDE, a -> out(a[1], 0, 6)).hold();
        new Line("keeps", "UNKNOWN (of STEPS a WALL is never KEPT).",
                (x, a) -> x.keeps(n(a, 0), n(a, 1), n(a, 2)), ends(0, desk.measures - 1), cells(), cells())
            .refused(UNKNOWN, a -> out(a[0], 0, desk.measures - 1))
            .refused(UNKNOWN, a -> !desk.isCell(a[1]))
            .refused(UNKNOWN, a -> !desk.isCell(a[2])).hold();
    }

    private static boolean isSpent(long t) {
        return desk.is(desk.spent, t);
    }

    /** Whether there is no n-th PLACING of the GROUP of a THING, where that can be told. */
    private static boolean isNoPlacing(long t, long n) {
        return n < 0 || !isSpent(t) && n >= desk.make().placings((int) t);
    }

    private static void groups() {
        new Line("group", "0 for UNKNOWN.",
                (x, a) -> x.group(n(a, 0)), allThings())
            .refused(0, a -> !desk.isThing(a[0])).hold();
        new Line("placings", "UNKNOWN; SPENT.",
                (x, a) -> x.placings(n(a, 0)), allThings())
            .refused(UNKNOWN, a -> !desk.isThing(a[0]))
            .refused(SPENT, a -> isSpent(a[0])).hold();
        long[] few = {MIN, -1, 0, 1, 62, 63, 999, MAX};
        new Line("nth", "UNKNOWN: u, n; SPENT.",
                (x, a) -> x.nth(n(a, 0), n(a, 1)), allThings(), few)
            .refused(UNKNOWN, a -> !desk.isThing(a[0]))
            .refused(UNKNOWN, a -> isNoPlacing(a[0], a[1]))
            .refused(SPENT, a -> isSpent(a[0])).hold();
        new Line("sure", "UNKNOWN; SPENT.",
                (x, a) -> x.sure(n(a, 0)), allThings())
            .refused(UNKNOWN, a -> !desk.isThing(a[0]))
            .refused(SPENT, a -> isSpent(a[0])).hold();
        new Line("could", "UNKNOWN; SPENT.",
                (x, a) -> x.could(n(a, 0)), allThings())
            .refused(UNKNOWN, a -> !desk.isThing(a[0]))
            .refused(SPENT, a -> isSpent(a[0])).hold();
        new Line("together", "UNKNOWN: THINGS, cells; SPENT (t's GROUP ahead of u's).",
                (x, a) -> x.together(n(a, 0), n(a, 1), n(a, 2), n(a, 3)), row(-1, 0, 3, desk.kinds.length() - 1,
                desk.kinds.length()), row(-1, 0, desk.w, 63, 64), row(-1, 0, 3, desk.kinds.length() - 1, desk.kinds.length()),
                row(-1, 0, 8 * desk.h, 63, 64))
            .refused(UNKNOWN, a -> !desk.isThing(a[0]))
            .refused(UNKNOWN, a -> !desk.isThing(a[2]))
            .refused(UNKNOWN, a -> !desk.isCell(a[1]))
            .refused(UNKNOWN, a -> !desk.isCell(a[3]))
            .refused(SPENT, a -> isSpent(a[0]))
            .refused(SPENT, a -> isSpent(a[2])).hold();
        new Line("ask", "UNKNOWN; OUTSIDE; SPENT.",
                (x, a) -> x.ask(n(a, 0), n(a, 1)), allThings(), ends(0, 1))
            .refused(UNKNOWN, a -> !desk.isThing(a[0]))
            .refused(OUTSIDE, a -> out(a[1], 0, 1))
            .refused(SPENT, a -> isSpent(a[0])).hold();
        new Line("between", "UNKNOWN; OUTSIDE; SPENT; NONE: the GROUP has but one THING.",
                (x, a) -> x.between(n(a, 0), n(a, 1)), allThings(), ends(0, 2))
            .refused(UNKNOWN, a -> !desk.isThing(a[0]))
            .refused(OUTSIDE, a -> out(a[1], 0, 2))
            .refused(SPENT, a -> isSpent(a[0]))
            .refused(NONE, a -> desk.is(desk.single, a[0])).hold();
    }

    private static void maps() {
        new Line("put", "(-9: none any more): what it had (NONE). UNKNOWN.",
                (x, a) -> x.put(n(a, 0), n(a, 1)), allThings(), row(MIN, -10, -9, -8, -1, 0, desk.w - 1, desk.w,
                8 * desk.h - 9 + desk.w, 8 * desk.h, 63, 64, MAX))
            .refused(UNKNOWN, a -> !desk.isThing(a[0]))
            .refused(UNKNOWN, a -> a[1] != NONE && !desk.isCell(a[1])).hold();
        new Line("take", "UNKNOWN: THING, n; SPENT.",
                (x, a) -> x.take(n(a, 0), n(a, 1)), allThings(), row(MIN, -1, 0, 1, 62, 63, 999, MAX))
            .refused(UNKNOWN, a -> !desk.isThing(a[0]))
            .refused(UNKNOWN, a -> isNoPlacing(a[0], a[1]))
            .refused(SPENT, a -> isSpent(a[0])).hold();
        new Line("flips", "UNKNOWN; STATE: one of it has no CELL on THE MAP.",
                (x, a) -> x.flips(n(a, 0)), allThings())
            .refused(UNKNOWN, a -> !desk.isThing(a[0]))
            .refused(STATE, a -> desk.is(desk.offMap, a[0])).hold();
        new Line("flip", "UNKNOWN: THING; STATE: as flips(); UNKNOWN: i; OUTSIDE.",
                (x, a) -> x.flip(n(a, 0), n(a, 1), n(a, 2)), allThings(), row(MIN, -9, -1, 0, 1, 999, MAX), ends(0, 3))
            .refused(UNKNOWN, a -> !desk.isThing(a[0]))
            .refused(STATE, a -> desk.is(desk.offMap, a[0]))
            .refused(UNKNOWN, a -> a[1] < 0 || a[1] >= desk.make().flips(n(a, 0)))
            .refused(OUTSIDE, a -> out(a[2], 0, 3)).hold();
        new Line("flipped", "UNKNOWN, STATE: as flip().",
                (x, a) -> x.flipped(n(a, 0), n(a, 1)), allThings(), row(MIN, -9, -1, 0, 1, 999, MAX))
            .refused(UNKNOWN, a -> !desk.isThing(a[0]))
            .refused(STATE, a -> desk.is(desk.offMap, a[0]))
            .refused(UNKNOWN, a -> a[1] < 0 || a[1] >= desk.make().flips(n(a, 0))).hold();
    }

    private static void movers() {
        new Line("mover", "OUTSIDE: n, r; FULL: MOVERS, THINGS, MEASURES.",
                (x, a) -> x.mover(n(a, 0), n(a, 1)), row(MIN, -1, 0, 1, 2, 8, 9, MAX), ends(0, 98))
            .refused(OUTSIDE, a -> out(a[0], 2, 8) || out(a[1], 0, 98))
            .refused(FULL, a -> desk.movers == 3).hold();
        new Line("tick", "UNKNOWN.",
                (x, a) -> x.tick(n(a, 0), n(a, 1)), from(-1, 3), from(-1, 9))
            .refused(UNKNOWN, a -> !desk.isTick(a[0], a[1])).hold();
        new Line("ways", "LOST: UNKNOWN.",
                (x, a) -> x.ways(n(a, 0)), row(MIN, -1, 0, 1, 2, 3, MAX)).answersLong()
            .refused(UNKNOWN, a -> out(a[0], 0, desk.movers - 1)).hold();
        new Line("way", "UNKNOWN: MOVER, TICK, n.",
                (x, a) -> x.way(n(a, 0), a[1], n(a, 2)), from(-1, 3), row(LOST, MIN, -1, 0, 77, 78, 1L << 60,
                Long.MAX_VALUE), from(-1, 9))
            .refused(UNKNOWN, a -> !desk.isTick(a[0], a[2]))
            .refused(UNKNOWN, a -> a[1] < 0 || a[1] >= desk.make().ways(n(a, 0))).hold();
        new Line("trust", "UNKNOWN.",
                (x, a) -> x.trust(n(a, 0), on(a, 1)), allThings(), SWITCH)
            .refused(UNKNOWN, a -> !desk.isThing(a[0])).hold();
        new Line("liars", "OUTSIDE; NONE: none of 0, 1, 2 THINGS does.",
                (x, a) -> x.liars(n(a, 0)), ends(0, 1))
            .refused(OUTSIDE, a -> out(a[0], 0, 1))
            .refused(NONE, a -> desk.noLiars).hold();
        new Line("lies", "UNKNOWN; NONE: as liars().",
                (x, a) -> x.lies(n(a, 0)), allThings())
            .refused(UNKNOWN, a -> !desk.isThing(a[0]))
            .refused(NONE, a -> desk.noLiars).hold();
    }

    private static boolean isEmptyHold(long k) {
        return desk.holds[(int) k].isEmpty();
    }

    private static void bodies(String name, Call call) {
        new Line(name, "UNKNOWN; OUTSIDE; CAST; NULL.", call, from(-1, 8), ends(0, 1)).namesFaults().mayAnswerSo()
            .refused(UNKNOWN, a -> out(a[0], 0, 7))
            .refused(OUTSIDE, a -> out(a[1], 0, 1))
            .fault(CAST, a -> !isEmptyHold(a[0]) && desk.holds[n(a, 0)].startsWith("0") != (a[1] == 0))
            .fault(NULL, a -> isEmptyHold(a[0])).hold();
    }

    private static void holds() {
        new Line("keep", "UNKNOWN.",
                (x, a) -> x.keep(n(a, 0)), ends(0, 1))
            .refused(UNKNOWN, a -> out(a[0], 0, 1)).hold();
        new Line("back", "UNKNOWN; STATE: nothing was kept so.",
                (x, a) -> x.back(n(a, 0)), ends(0, 1))
            .refused(UNKNOWN, a -> out(a[0], 0, 1))
            .refused(STATE, a -> !desk.kept[n(a, 0)]).hold();
        new Line("hold", "UNKNOWN: HOLD; OUTSIDE: what; UNKNOWN: there is no such.",
                (x, a) -> x.hold(n(a, 0), n(a, 1), n(a, 2)), ends(0, 7), ends(0, 1), from(-1, 61))
            .refused(UNKNOWN, a -> out(a[0], 0, 7))
            .refused(OUTSIDE, a -> out(a[1], 0, 1))
            .refused(UNKNOWN, a -> a[1] == 0 ? !desk.isThing(a[2]) : out(a[2], 0, desk.measures - 1)).hold();
        new Line("loose", "UNKNOWN.",
                (x, a) -> x.loose(n(a, 0)), from(-1, 8))
            .refused(UNKNOWN, a -> out(a[0], 0, 7)).hold();
        new Line("as", "UNKNOWN; OUTSIDE; CAST (nothing is no CAST); NULL.",
                (x, a) -> x.as(n(a, 0), n(a, 1)), from(-1, 8), from(-1, 9)).namesFaults()
            .refused(UNKNOWN, a -> out(a[0], 0, 7))
            .refused(OUTSIDE, a -> out(a[1], 0, 8))
            .fault(CAST, a -> !isEmptyHold(a[0]) && desk.holds[n(a, 0)].indexOf((char) ('0' + a[1])) < 0)
            .fault(NULL, a -> isEmptyHold(a[0])).hold();
        bodies("tell", (x, a) -> x.tell(n(a, 0), n(a, 1)));
        bodies("greet", (x, a) -> x.greet(n(a, 0), n(a, 1)));
    }

    private static void sheets() {
        new Line("sheet", "UNKNOWN; OUTSIDE: lane, n above 64; SIZE.",
                (x, a) -> x.sheet(n(a, 0), n(a, 1), n(a, 2)), from(-1, 4), from(-1, 4),
                row(MIN, -1, 0, 1, 64, 65, MAX))
            .namesFaults()
            .refused(UNKNOWN, a -> out(a[0], 0, 3))
            .refused(OUTSIDE, a -> out(a[1], 0, 3) || a[2] > 64)
            .fault(SIZE, a -> a[2] < 0).hold();
        new Line("lose", "UNKNOWN.",
                (x, a) -> x.lose(n(a, 0)), from(-1, 4))
            .refused(UNKNOWN, a -> out(a[0], 0, 3)).hold();
        long[] places = {MIN, -1, 0, 1, 11, 12, 20, 21, 63, 64, MAX};
        new Line("lay", "UNKNOWN; NULL; INDEX.",
                (x, a) -> x.lay(n(a, 0), n(a, 1), a[2]), from(-1, 4), places, row(LOST, 7))
            .namesFaults()
            .refused(UNKNOWN, a -> out(a[0], 0, 3))
            .fault(NULL, a -> !desk.hasRow(a[0]))
            .fault(INDEX, a -> out(a[1], 0, desk.lengthOf(a[0]) - 1)).hold();
        new Line("cell", "LOST: UNKNOWN, OUTSIDE: lane; FAULTS CAST (nothing is no CAST), NULL, INDEX.",
                (x, a) -> x.cell(n(a, 0), n(a, 1), n(a, 2)), from(-1, 4), places, from(-1, 4))
            .namesFaults().answersLong()
            .refused(UNKNOWN, a -> out(a[0], 0, 3))
            .refused(OUTSIDE, a -> out(a[2], 0, 3))
            .fault(CAST, a -> desk.hasRow(a[0]) && desk.lanes[n(a, 0)] != a[2])
            .fault(NULL, a -> !desk.hasRow(a[0]))
            .fault(INDEX, a -> out(a[1], 0, desk.lengthOf(a[0]) - 1)).hold();
        long[] counts = {MIN, -1, 0, 1, 12, 13, 21, 22, 64, 65, MAX};
        new Line("copy", "UNKNOWN; FAULTS NULL (the first, the other), CAST (unlike LANES), INDEX: i, j, n below 0 or beyond.",
                (x, a) -> x.copy(n(a, 0), n(a, 1), n(a, 2), n(a, 3), n(a, 4)), from(-1, 4), row(-1, 0, 12, 13, 64, 65),
                from(-1, 4), row(-1, 0, 12, 13, 64, 65), counts)
            .namesFaults()
            .refused(UNKNOWN, a -> out(a[0], 0, 3) || out(a[2], 0, 3))
            .fault(NULL, a -> !desk.hasRow(a[0]))
            .fault(NULL, a -> !desk.hasRow(a[2]))
            .fault(CAST, a -> desk.lanes[n(a, 0)] != desk.lanes[n(a, 2)])
            .fault(INDEX, a -> a[1] < 0 || a[3] < 0 || a[4] < 0 || a[1] + a[4] > desk.lengthOf(a[0])
                || a[3] + a[4] > desk.lengthOf(a[2])).hold();
        new Line("many", "OUTSIDE.",
                (x, a) -> x.many(n(a, 0)), ends(0, 9))
            .refused(OUTSIDE, a -> out(a[0], 0, 9)).hold();
    }

    public static void main(String[] arguments) throws Exception {
        document = Files.readString(Path.of("../shared/DOC.md")).replaceAll("\\s+", " ");
        for (Desk each : new Desk[] {new Nothing(), new Some(), new Full()}) {
            desk = each;
            untouched.clear();
            for (int part = 0; part < PARTS; part++) {
                untouched.add(shown(desk.make(), part));
            }
            field();
            measures();
            groups();
            maps();
            movers();
            holds();
            sheets();
        }
        System.out.println(wrong == 0 ? answers + " times as due" : wrong + " times not as due");
        System.exit(wrong == 0 ? 0 : 1);
    }
}
