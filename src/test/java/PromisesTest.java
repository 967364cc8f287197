/** Each promise by its number: ordinary calls, edges that the document names, and wrong ones, with answers by hand. */
public final class PromisesTest {
    private static final int UNKNOWN = -1, OUTSIDE = -2, STATE = -3, FULL = -4, SPENT = -6, NONE = -9;
    private static final int NULL = -11, CAST = -12, INDEX = -13, SIZE = -14;
    private static final long LOST = Long.MIN_VALUE;

    private static int wrong = 0;
    private static int answers = 0;
    private static int promise;

    private static void due(String call, long got, long want) {
        answers++;
        if (got != want) {
            wrong++;
            System.out.println("promise " + promise + ": " + call + " answered " + got + ", due is " + want);
        }
    }

    private static void faultDue(HeardPlaces x, String call, long got, long fault) {
        due(call, got, -10 - fault);
        due("fault() after " + call, x.fault(), fault);
    }

    /** A call that is refused, where the call ahead came to a FAULT. */
    private static HeardPlaces faulted(HeardPlaces x) {
        due("a FAULT", x.as(7, 0), NULL);
        due("fault()", x.fault(), 1);
        return x;
    }

    private static int bits(int... numbers) {
        int set = 0;
        for (int n : numbers) {
            set |= 1 << n;
        }
        return set;
    }

    private static int at(int x, int y) {
        return 8 * y + x;
    }

    private static HeardPlaces fieldOf(int w, int h) {
        HeardPlaces x = new HeardPlaces();
        due("field", x.field(w, h), w * h);
        return x;
    }

    private static void lay(HeardPlaces x, int k, int lane, int n, long... values) {
        due("sheet", x.sheet(k, lane, n), 1);
        for (int i = 0; i < values.length; i++) {
            due("lay", x.lay(k, i, values[i]), 1);
        }
    }

    private static void promise1() {
        HeardPlaces x = new HeardPlaces();
        due("many(0)", x.many(0), 64);
        for (int what = 1; what < 10; what++) {
            due("many(" + what + ")", x.many(what), 0);
        }
        due("hops", x.hops(0, 63, 1), 14);
        due("check", x.check(), 1);
        due("trace", x.trace(), 0);
        due("fault", x.fault(), 0);
        due("trials", x.trials(), 0);
        due("ways", x.ways(0), LOST);
        due("alone", x.alone(false), 0);
        for (int k = 0; k < 2; k++) {
            due("back", x.back(k), STATE);
        }
        for (int k = 0; k < 4; k++) {
            due("lose", x.lose(k), 0);
        }
        for (int k = 0; k < 8; k++) {
            due("loose", x.loose(k), 0);
        }
        due("UNKNOWN", HeardPlaces.UNKNOWN, -1);
        due("OUTSIDE", HeardPlaces.OUTSIDE, -2);
        due("STATE", HeardPlaces.STATE, -3);
        due("FULL", HeardPlaces.FULL, -4);
        due("SPENT", HeardPlaces.SPENT, -6);
        due("NONE", HeardPlaces.NONE, -9);
        due("LOST", HeardPlaces.LOST, LOST);
    }

    private static void promise2() {
        HeardPlaces x = new HeardPlaces();
        due("field", x.field(1, 1), 1);
        due("field", x.field(8, 8), 64);
        due("wall", x.wall(1, true), 1);
        due("thing", x.thing(1, 0), 0);
        due("thing", x.thing(0, 0), 1);
        due("box", x.box(1, 0, 0, 0, 0), 1);
        due("measure", x.measure(4, 0, 1, 2, 1), 0);
        due("mover", x.mover(2, 1), 0);
        due("trust", x.trust(0, true), 1);
        due("put", x.put(0, 0), NONE);
        due("alone", x.alone(true), 1);
        due("hold", x.hold(0, 0, 1), 1);
        due("sheet", x.sheet(0, 0, 1), 1);
        due("keep", x.keep(0), 1);
        due("field", x.field(0, 1), OUTSIDE);
        due("field", x.field(9, 1), OUTSIDE);
        due("field", x.field(1, 0), OUTSIDE);
        due("field", x.field(1, 9), OUTSIDE);
        due("field", x.field(Integer.MIN_VALUE, Integer.MAX_VALUE), OUTSIDE);
        due("many(1)", x.many(1), 4);
        due("field", x.field(3, 2), 6);
        due("many(0)", x.many(0), 6);
        for (int what : new int[] {1, 2, 3, 4, 7, 9}) {
            due("many(" + what + ")", x.many(what), 0);
        }
        due("wall", x.wall(3, true), UNKNOWN);
        due("wall", x.wall(16, true), UNKNOWN);
        due("thing", x.thing(1, 0), 0);
        due("thing", x.thing(0, 0), 1);
        due("trust is gone", x.about(0, 6), 0);
        due("the map is gone", x.about(0, 5), NONE);
        due("the mover is gone", x.about(1, 7), NONE);
        due("the box is gone", x.about(1, 1), 6);
        due("measure", x.measure(4, 0, 1, 1, 1), 0);
        due("cells", x.cells(1), 1L << 1 | 1L << 8);
        due("mover", x.mover(2, 0), 0);
        due("holds stay", x.as(0, 0), 1);
        due("sheets stay", x.lose(0), 1);
        due("images stay", x.back(0), 1);
        due("many(0)", x.many(0), 63);
    }

    private static void promise3() {
        HeardPlaces x = fieldOf(4, 3);
        due("wall", x.wall(9, true), 1);
        due("wall", x.wall(9, true), 0);
        due("many(0)", x.many(0), 11);
        due("hops", x.hops(9, 0, 1), STATE);
        due("wall", x.wall(9, false), 1);
        due("wall", x.wall(9, false), 0);
        due("many(0)", x.many(0), 12);
        due("wall", x.wall(19, true), 1);
        due("wall", x.wall(4, true), UNKNOWN);
        due("wall", x.wall(24, true), UNKNOWN);
        due("wall", x.wall(-1, true), UNKNOWN);
        due("wall", x.wall(64, true), UNKNOWN);
        due("wall", x.wall(65, true), UNKNOWN);
        due("thing", x.thing(1, 0), 0);
        due("thing", x.thing(2, 1), 1);
        due("thing", x.thing(0, 2), 2);
        due("wall", x.wall(0, true), STATE);
        due("wall", x.wall(0, false), STATE);
        due("wall", x.wall(1, true), STATE);
        due("put", x.put(0, 10), NONE);
        due("only its own cell", x.wall(10, true), 1);
        due("no anchor", x.wall(2, true), 1);
        due("about", x.about(2, 1), 9);
        due("cells follow", x.can(2, 2, 1), 0);
    }

    private static void promise4() {
        HeardPlaces x = fieldOf(3, 2);
        lay(x, 1, 0, 8, 9, 0, 1, 0, 0, 256, -1, 3);
        due("plan", x.plan(1, 0, 1), 4);
        due("fault", x.fault(), 0);
        boolean[] walls = {false, true, false, false, false, true};
        for (int i = 0; i < 6; i++) {
            due("hops", x.hops(at(i % 3, i / 3), at(i % 3, i / 3), 1), walls[i] ? STATE : 0);
        }
        due("up to the end", x.plan(1, 0, 2), 3);
        due("fault", x.fault(), 0);
        due("sheet", faulted(x).plan(-1, 0, 0), UNKNOWN);
        due("fault", x.fault(), 0);
        due("sheet", x.plan(4, 9, 0), UNKNOWN);
        due("lane", faulted(x).plan(1, 4, 0), OUTSIDE);
        due("fault", x.fault(), 0);
        due("lane", x.plan(1, -1, 0), OUTSIDE);
        due("lane ahead of nothing", x.plan(0, 4, 0), OUTSIDE);
        faultDue(x, "another lane", x.plan(1, 1, 99), 2);
        faultDue(x, "nothing", x.plan(0, 1, 99), 1);
        faultDue(x, "below", x.plan(1, 0, -1), 3);
        faultDue(x, "beyond", x.plan(1, 0, 3), 3);
        faultDue(x, "far beyond", x.plan(1, 0, Integer.MAX_VALUE), 3);
        faultDue(x, "far below", x.plan(1, 0, Integer.MIN_VALUE), 3);
        due("nothing changed", x.many(0), 3);
        due("wall", x.wall(at(2, 1), false), 1);
        due("thing", x.thing(2, at(2, 1)), 0);
        due("an anchor's wall", faulted(x).plan(1, 0, 2), STATE);
        due("fault", x.fault(), 0);
        due("nothing changed", x.many(0), 4);
        due("put", x.put(0, at(0, 0)), NONE);
        due("lay", x.lay(1, 7, 0), 1);
        due("only its own cell", x.plan(1, 0, 2), 4);
        due("sheet", x.sheet(2, 3, 6), 1);
        due("lay", x.lay(2, 0, 1L << 40), 1);
        due("longs", x.plan(2, 3, 0), 5);
        due("field", x.field(1, 1), 1);
        due("sheet", x.sheet(2, 1, 0), 1);
        faultDue(x, "an empty row", x.plan(2, 1, 0), 3);
        HeardPlaces y = fieldOf(3, 1);
        due("anchor", y.thing(1, 0), 0);
        due("thing", y.thing(0, 0), 1);
        due("measure", y.measure(4, 0, 1, 1, 1), 0);
        due("cells", y.cells(1), 2);
        due("keeps", y.keeps(0, 0, 1), 1);
        lay(y, 0, 0, 3, 0, 1, 0);
        due("plan", y.plan(0, 0, 0), 2);
        due("cells follow", y.cells(1), 0);
        due("hops follow", y.keeps(0, 0, 1), 0);
        due("wall", y.wall(1, false), 1);
        due("hops follow", y.keeps(0, 0, 1), 1);
    }

    private static void promise5() {
        HeardPlaces x = fieldOf(4, 4);
        due("wall", x.wall(3, true), 1);
        due("thing", x.thing(0, Integer.MIN_VALUE), 0);
        due("thing", x.thing(0, 3), 1);
        due("anchor", x.thing(1, 27), 2);
        due("beacon", x.thing(2, 27), 3);
        for (int t = 0; t < 4; t++) {
            due("kind", x.about(t, 0), Math.max(0, t - 1));
        }
        due("cells", x.cells(3), 1L << 27);
        due("kind ahead of cell", x.thing(3, -1), OUTSIDE);
        due("kind", x.thing(-1, 0), OUTSIDE);
        due("cell", x.thing(1, 4), UNKNOWN);
        due("cell", x.thing(2, 32), UNKNOWN);
        due("cell", x.thing(1, -1), UNKNOWN);
        due("cell", x.thing(1, 64), UNKNOWN);
        due("wall", x.thing(1, 3), STATE);
        due("wall", x.thing(2, 3), STATE);
        due("many(1)", x.many(1), 4);
        for (int t = 4; t < 24; t++) {
            due("thing", x.thing(0, 0), t);
        }
        due("full", x.thing(0, 0), FULL);
        due("full", x.thing(1, 0), FULL);
        due("kind ahead of full", x.thing(3, 0), OUTSIDE);
        due("cell ahead of full", x.thing(1, 4), UNKNOWN);
        due("wall ahead of full", x.thing(1, 3), STATE);
        due("many(1)", x.many(1), 24);
        due("group", x.group(23), 1 << 23);
    }

    private static void promise6() {
        HeardPlaces x = fieldOf(4, 4);
        due("wall", x.wall(at(1, 1), true), 1);
        due("thing", x.thing(0, 0), 0);
        due("anchor", x.thing(1, 0), 1);
        due("whole at first", x.about(0, 1), 15);
        due("box", x.box(0, 1, 1, 2, 3), 5);
        due("cells", x.cells(0), 1L << 10 | 1L << 17 | 1L << 18 | 1L << 25 | 1L << 26);
        due("one cell", x.box(0, 3, 3, 3, 3), 1);
        due("on the wall", x.box(0, 1, 1, 1, 1), 0);
        due("beyond the field", x.box(0, 4, 4, 7, 7), 0);
        due("over its edge", x.box(0, 3, 0, 7, 7), 4);
        due("all", x.box(0, 0, 0, 7, 7), 15);
        due("thing", x.box(2, 8, 0, 0, 0), UNKNOWN);
        due("thing", x.box(-1, 0, 0, 0, 0), UNKNOWN);
        due("anchor", x.box(1, 8, 0, 0, 0), STATE);
        due("x1", x.box(0, -1, 0, 0, 0), OUTSIDE);
        due("y1", x.box(0, 0, -1, 0, 0), OUTSIDE);
        due("x2", x.box(0, 0, 0, 8, 0), OUTSIDE);
        due("y2", x.box(0, 0, 0, 0, 8), OUTSIDE);
        due("x1 above x2", x.box(0, 2, 0, 1, 7), OUTSIDE);
        due("y1 above y2", x.box(0, 0, 2, 7, 1), OUTSIDE);
        due("nothing changed", x.about(0, 1), 15);
        due("box", x.box(0, 1, 1, 2, 2), 3);
        due("wall", x.wall(at(1, 1), false), 1);
        due("the box stays", x.about(0, 1), 4);
        HeardPlaces y = new HeardPlaces();
        due("thing", y.thing(0, 0), 0);
        due("the last corner", y.box(0, 7, 7, 7, 7), 1);
        due("cells", y.cells(0), LOST);
        due("the first corner", y.box(0, 0, 0, 0, 0), 1);
        due("cells", y.cells(0), 1);
    }

    private static void promise7() {
        HeardPlaces x = fieldOf(3, 3);
        due("beacon", x.thing(2, at(0, 0)), 0);
        due("thing", x.thing(0, 0), 1);
        due("mover", x.mover(2, 0), 0);
        due("measure", x.measure(0, 0, 1, 4, 4), 1);
        due("measure", x.measure(1, 1, 2, 0, 8), 2);
        due("measure", x.measure(1, 0, 1, 0, 0), 3);
        due("turn", x.turn(3, false), 1);
        due("put", x.put(1, 9), NONE);
        due("trust", x.trust(1, true), 1);
        int[] due = {0, 9, 2, 2, 2, 9, 1, NONE, NONE};
        for (int what = 0; what < 9; what++) {
            due("about(1, " + what + ")", x.about(1, what), due[what]);
        }
        int[] ofBeacon = {2, 1, 1, 0, 1, NONE, 0, NONE, NONE};
        for (int what = 0; what < 9; what++) {
            due("about(0, " + what + ")", x.about(0, what), ofBeacon[what]);
        }
        due("mover", x.about(2, 7), 0);
        due("tick", x.about(2, 8), 0);
        due("tick", x.about(3, 8), 1);
        due("measures of both", x.about(2, 4), 2);
        due("what", x.about(1, -1), OUTSIDE);
        due("what", x.about(1, 9), OUTSIDE);
        due("thing ahead of what", x.about(4, 9), UNKNOWN);
        due("thing", x.about(-1, 0), UNKNOWN);
        due("turn", x.turn(3, true), 1);
        due("no cell", x.about(1, 2), 0);
        due("first of none", x.about(1, 3), NONE);
        due("told still", x.about(1, 1), 9);
    }

    private static void promise8() {
        HeardPlaces x = fieldOf(4, 1);
        due("anchor", x.thing(1, 0), 0);
        due("thing", x.thing(0, 0), 1);
        due("wall", x.wall(3, true), 1);
        due("measure", x.measure(1, 0, 1, 0, 1), 0);
        int[] told = {1, 1, 1, 0};
        int[] narrowed = {1, 1, 0, 0};
        for (int cell = 0; cell < 4; cell++) {
            due("told", x.can(1, cell, 0), told[cell]);
            due("narrowed", x.can(1, cell, 1), narrowed[cell]);
            due("the anchor", x.can(0, cell, 1), cell == 0 ? 1 : 0);
        }
        due("thing", x.can(2, 0, 2), UNKNOWN);
        due("thing", x.can(-1, 0, 0), UNKNOWN);
        due("cell", x.can(1, 4, 2), UNKNOWN);
        due("cell", x.can(1, 8, 0), UNKNOWN);
        due("cell", x.can(1, -1, 0), UNKNOWN);
        due("what", x.can(1, 0, 2), OUTSIDE);
        due("what", x.can(1, 0, -1), OUTSIDE);
    }

    private static void promise9() {
        HeardPlaces x = new HeardPlaces();
        due("nothing", x.cells(0), 0);
        due("thing", x.thing(0, 0), 0);
        due("all", x.cells(0), -1L);
        due("anchor", x.thing(1, 63), 1);
        due("anchor", x.cells(1), LOST);
        due("measure", x.measure(0, 0, 1, 1, 2), 0);
        due("three", x.cells(0), 1L << 62 | 1L << 55 | 1L << 54);
        due("turn", x.turn(0, false), 1);
        due("all again", x.cells(0), -1L);
        due("thing", x.cells(2), 0);
        due("thing", x.cells(-1), 0);
        chainDue(true);
        chainDue(false);
        // A row of THINGS, each heard by the next one alone.
        HeardPlaces y = fieldOf(8, 1);
        due("anchor", y.thing(1, 0), 0);
        for (int t = 1; t < 5; t++) {
            due("thing", y.thing(0, 0), t);
        }
        for (int t = 4; t > 0; t--) {
            due("measure", y.measure(0, t, t - 1, 1, 1), 4 - t);
        }
        long[] due = {1, 2, 5, 2 | 8, 1 | 4 | 16};
        for (int t = 0; t < 5; t++) {
            due("cells(" + t + ")", y.cells(t), due[t]);
        }
        due("box", y.box(4, 3, 0, 7, 0), 5);
        due("all of one cell", y.many(5), 5);
        long[] after = {1, 2, 4, 8, 16};
        for (int t = 0; t < 5; t++) {
            due("cells(" + t + ")", y.cells(t), after[t]);
        }
        due("wall", y.wall(2, true), 1);
        for (int t = 0; t < 5; t++) {
            due("none of a quarrel", y.cells(t), 0);
        }
    }

    /** A chain of THINGS in no order of their numbers, from an ANCHOR on, told from its end on. */
    private static void chainDue(boolean onward) {
        int[] chain = {0, 3, 1, 4, 2, 6, 5};
        HeardPlaces x = fieldOf(8, 1);
        due("anchor", x.thing(1, 0), 0);
        for (int t = 1; t < 7; t++) {
            due("thing", x.thing(0, 0), t);
        }
        for (int i = 5; i >= 0; i--) {
            int near = chain[i];
            int far = chain[i + 1];
            due("measure", x.measure(3, onward ? near : far, onward ? far : near, onward ? 0 : 2, 0), 5 - i);
        }
        for (int i = 1; i < 7; i++) {
            due("cells of the chain", x.cells(chain[i]), 3L << i);
        }
    }

    private static void promise10() {
        HeardPlaces x = fieldOf(5, 3);
        due("wall", x.wall(at(2, 0), true), 1);
        due("wall", x.wall(at(2, 1), true), 1);
        due("itself", x.hops(0, 0, 0), 0);
        due("no reach", x.hops(0, 1, 0), -1);
        due("around", x.hops(at(1, 0), at(3, 0), 1), 6);
        due("aslant", x.hops(at(1, 0), at(3, 0), 2), 4);
        due("over the wall", x.hops(at(1, 0), at(3, 0), 4), 1);
        due("far", x.hops(0, at(4, 2), 98), 1);
        due("just far enough", x.hops(0, at(4, 2), 20), 1);
        due("not quite", x.hops(0, at(4, 2), 19), 2);
        due("wall", x.wall(at(2, 2), true), 1);
        due("shut", x.hops(at(1, 0), at(3, 0), 2), -1);
        due("cell", x.hops(5, 0, 99), UNKNOWN);
        due("cell", x.hops(0, 24, 1), UNKNOWN);
        due("cell", x.hops(-1, 0, 1), UNKNOWN);
        due("cell", x.hops(0, 64, 1), UNKNOWN);
        due("reach", x.hops(0, 2, 99), OUTSIDE);
        due("reach", x.hops(0, 0, -1), OUTSIDE);
        due("wall", x.hops(0, 2, 1), STATE);
        due("wall", x.hops(2, 0, 1), STATE);
        due("wall to itself", x.hops(2, 2, 1), STATE);
        HeardPlaces y = new HeardPlaces();
        due("corner to corner", y.hops(0, 63, 98), 1);
        due("corner to corner", y.hops(0, 63, 97), 2);
        due("corner to corner", y.hops(63, 0, 2), 7);
    }

    private static void promise11() {
        HeardPlaces x = fieldOf(4, 4);
        due("thing", x.thing(0, 0), 0);
        due("thing", x.thing(0, 0), 1);
        due("far", x.measure(0, 0, 1, 0, 98), 0);
        due("far", x.measure(0, 1, 0, 98, 98), 1);
        due("far", x.measure(0, 1, 0, 0, 0), 2);
        due("hears", x.measure(1, 0, 1, -5, 0), 3);
        due("deaf", x.measure(2, 0, 1, 999, 98), 4);
        due("side", x.measure(3, 0, 1, 3, -7), 5);
        due("steps", x.measure(4, 0, 1, 0, 1), 6);
        due("steps", x.measure(4, 0, 1, 20, 98), 7);
        due("first thing", x.measure(9, 2, 0, 0, 0), UNKNOWN);
        due("first thing", x.measure(0, -1, 0, 0, 0), UNKNOWN);
        due("second thing", x.measure(9, 0, 2, 0, 0), UNKNOWN);
        due("second thing", x.measure(0, 0, -1, 0, 0), UNKNOWN);
        due("kind", x.measure(5, 0, 1, 0, 0), OUTSIDE);
        due("kind", x.measure(-1, 0, 1, 0, 0), OUTSIDE);
        due("both one", x.measure(1, 1, 1, 0, 0), OUTSIDE);
        due("far p", x.measure(0, 0, 1, -1, 5), OUTSIDE);
        due("far p above q", x.measure(0, 0, 1, 6, 5), OUTSIDE);
        due("far q", x.measure(0, 0, 1, 5, 99), OUTSIDE);
        due("hears q", x.measure(1, 0, 1, 0, 99), OUTSIDE);
        due("hears q", x.measure(1, 0, 1, 0, -1), OUTSIDE);
        due("deaf q", x.measure(2, 0, 1, 0, 99), OUTSIDE);
        due("deaf q", x.measure(2, 0, 1, 0, -1), OUTSIDE);
        due("side p", x.measure(3, 0, 1, 4, 0), OUTSIDE);
        due("side p", x.measure(3, 0, 1, -1, 0), OUTSIDE);
        due("steps p", x.measure(4, 0, 1, 21, 1), OUTSIDE);
        due("steps p", x.measure(4, 0, 1, -1, 1), OUTSIDE);
        due("steps q", x.measure(4, 0, 1, 0, 0), OUTSIDE);
        due("steps q", x.measure(4, 0, 1, 0, 99), OUTSIDE);
        due("many(2)", x.many(2), 8);
        for (int m = 8; m < 60; m++) {
            due("measure", x.measure(1, 0, 1, 0, 98), m);
        }
        due("full", x.measure(1, 0, 1, 0, 98), FULL);
        due("outside ahead of full", x.measure(1, 0, 1, 0, 99), OUTSIDE);
        due("unknown ahead of full", x.measure(1, 0, 2, 0, 99), UNKNOWN);
        due("many(2)", x.many(2), 60);
        due("turn", x.turn(59, false), 1);
        due("full of those off, too", x.measure(1, 0, 1, 0, 98), FULL);
    }

    private static void promise12() {
        HeardPlaces x = fieldOf(4, 4);
        due("thing", x.thing(0, 0), 0);
        due("thing", x.thing(0, 0), 1);
        lay(x, 0, 2, 13, 7, 0, 0, 1, 2, 3, 1, 1, 0, 9, 4, 0, 0);
        due("two", x.measures(0, 2, 1, 2), 2);
        due("fault", x.fault(), 0);
        int[] first = {0, 0, 1, 2, 3};
        int[] second = {1, 1, 0, 0, 4};
        for (int what = 0; what < 5; what++) {
            due("told", x.told(0, what), first[what]);
            due("told", x.told(1, what), second[what]);
        }
        due("those that are there", x.measures(0, 2, 1, 3), 2);
        due("fault", x.fault(), 3);
        due("none asked for", x.measures(0, 2, 1, 0), 0);
        due("fault", x.fault(), 0);
        due("none asked for, anywhere", x.measures(0, 2, -5, 0), 0);
        due("fault", x.fault(), 0);
        due("below", x.measures(0, 2, -1, 1), 0);
        due("fault", x.fault(), 3);
        due("beyond", x.measures(0, 2, Integer.MAX_VALUE, 1), 0);
        due("fault", x.fault(), 3);
        due("four cells are not five", x.measures(0, 2, 9, 1), 0);
        due("fault", x.fault(), 3);
        due("one that is refused", x.measures(0, 2, 8, Integer.MAX_VALUE), 0);
        due("fault", x.fault(), 0);
        due("many(2)", x.many(2), 4);
        due("lay", x.lay(0, 6, 9), 1);
        due("the second is refused", x.measures(0, 2, 1, 2), 1);
        due("fault", x.fault(), 0);
        due("sheet", faulted(x).measures(4, 9, 0, -1), UNKNOWN);
        due("fault", x.fault(), 0);
        due("sheet", x.measures(-1, 0, 0, 0), UNKNOWN);
        due("lane", faulted(x).measures(1, 4, 0, -1), OUTSIDE);
        due("fault", x.fault(), 0);
        due("lane", x.measures(1, -1, 0, 0), OUTSIDE);
        faultDue(x, "another lane", x.measures(0, 3, 0, -1), 2);
        faultDue(x, "nothing", x.measures(1, 3, 0, -1), 1);
        faultDue(x, "size", x.measures(0, 2, -1, -1), 4);
        lay(x, 2, 3, 5, 1L << 32 | 1, 0, 1L << 40 | 1, 5, 1L << 63 | 6);
        due("cut to ints", x.measures(2, 3, 0, 1), 1);
        due("told", x.told(5, 4), 6);
        lay(x, 3, 0, 10, 1, 0, 1, 0, 7, 1, 0, 1, 0, 8);
        for (int m = 6; m < 59; m++) {
            due("measure", x.measure(1, 0, 1, 0, 98), m);
        }
        due("the second finds it full", x.measures(3, 0, 0, 2), 1);
        due("fault", x.fault(), 0);
        due("many(2)", x.many(2), 60);
    }

    private static void promise13() {
        HeardPlaces x = fieldOf(4, 1);
        due("anchor", x.thing(1, 0), 0);
        due("thing", x.thing(0, 0), 1);
        due("measure", x.measure(1, 0, 1, 0, 0), 0);
        due("on at first", x.turn(0, true), 0);
        due("off", x.turn(0, false), 1);
        due("off", x.turn(0, false), 0);
        due("told", x.told(0, 5), 0);
        due("many", x.many(3), 0);
        due("cells", x.cells(1), 15);
        due("on", x.turn(0, true), 1);
        due("cells", x.cells(1), 1);
        due("measure", x.turn(1, false), UNKNOWN);
        due("measure", x.turn(-1, false), UNKNOWN);
    }

    private static void promise14() {
        HeardPlaces x = fieldOf(4, 1);
        due("anchor", x.thing(1, 0), 0);
        due("thing", x.thing(0, 0), 1);
        due("far", x.measure(0, 0, 1, 1, 4), 0);
        due("hears", x.measure(1, 1, 0, 77, 98), 1);
        due("deaf", x.measure(2, 0, 1, 77, 1), 2);
        due("side", x.measure(3, 0, 1, 0, 77), 3);
        due("steps", x.measure(4, 0, 1, 2, 1), 4);
        int[][] due = {{0, 0, 1, 1, 4}, {1, 1, 0, 0, 98}, {2, 0, 1, 0, 1}, {3, 0, 1, 0, 0}, {4, 0, 1, 2, 1}};
        for (int m = 0; m < 5; m++) {
            for (int what = 0; what < 5; what++) {
                due("told", x.told(m, what), due[m][what]);
            }
            due("on", x.told(m, 5), 1);
            due("no quarrel", x.told(m, 6), 0);
        }
        due("hears", x.measure(1, 0, 1, 0, 1), 5);
        due("turn", x.turn(0, false), 1);
        due("off", x.told(0, 5), 0);
        // 2 and 5 can't both hold; 4 and 5 neither: those of lesser number are left out first.
        int[] least = {0, 0, 0, 0, 1, 1};
        for (int m = 0; m < 6; m++) {
            due("in the least quarrel", x.told(m, 6), least[m]);
        }
        due("what", x.told(0, 7), OUTSIDE);
        due("what", x.told(0, -1), OUTSIDE);
        due("measure ahead of what", x.told(6, 7), UNKNOWN);
        due("measure", x.told(-1, 0), UNKNOWN);
    }

    private static void promise15() {
        HeardPlaces x = fieldOf(5, 5);
        for (int t = 0; t < 2; t++) {
            due("thing", x.thing(0, 0), t);
        }
        due("far", x.measure(0, 0, 1, 2, 4), 0);
        due("hears", x.measure(1, 0, 1, 0, 4), 1);
        due("deaf", x.measure(2, 0, 1, 0, 4), 2);
        int[][] near = {{0, 1}, {1, 1}, {2, 0}, {0, 0}, {3, 0}, {2, 1}};
        int[][] keptNear = {{0, 1, 0}, {1, 1, 0}, {1, 1, 0}, {0, 1, 0}, {0, 0, 1}, {0, 0, 1}};
        for (int i = 0; i < near.length; i++) {
            for (int m = 0; m < 3; m++) {
                due("keeps " + m, x.keeps(m, at(0, 0), at(near[i][0], near[i][1])), keptNear[i][m]);
                due("keeps " + m, x.keeps(m, at(4, 4), at(4 - near[i][0], 4 - near[i][1])), keptNear[i][m]);
            }
        }
        for (int p = 0; p < 4; p++) {
            due("side", x.measure(3, 0, 1, p, 0), 3 + p);
        }
        // From the middle: which sides each of the CELLS around lies on.
        int[][] sides = {{1, 0, 0}, {1, 1, 0, 1}, {0, 1, 1}, {-1, 1, 1, 2}, {-1, 0, 2}, {-1, -1, 2, 3}, {0, -1, 3},
            {1, -1, 3, 0}, {2, 1, 0}, {1, 2, 1}, {-2, -1, 2}, {-1, -2, 3}, {0, 0}};
        for (int[] side : sides) {
            for (int p = 0; p < 4; p++) {
                int lies = side.length > 2 && side[2] == p || side.length > 3 && side[3] == p ? 1 : 0;
                due("side " + p, x.keeps(3 + p, at(2, 2), at(2 + side[0], 2 + side[1])), lies);
            }
        }
        due("steps", x.measure(4, 0, 1, 2, 1), 7);
        due("steps of none", x.measure(4, 0, 1, 0, 1), 8);
        due("far from none on", x.measure(0, 0, 1, 0, 1), 9);
        due("keeps", x.keeps(9, at(1, 1), at(1, 1)), 1);
        due("keeps", x.keeps(9, at(1, 1), at(2, 1)), 1);
        due("keeps", x.keeps(9, at(1, 1), at(2, 2)), 0);
        due("steps", x.keeps(7, at(0, 0), at(1, 1)), 1);
        due("steps", x.keeps(7, at(0, 0), at(2, 0)), 1);
        due("steps", x.keeps(7, at(0, 0), at(1, 0)), 0);
        due("steps", x.keeps(8, at(0, 0), at(0, 0)), 1);
        due("wall", x.wall(at(1, 0), true), 1);
        due("walls count", x.keeps(7, at(0, 0), at(2, 0)), 0);
        due("walls count", x.keeps(7, at(0, 0), at(1, 1)), 1);
        due("a wall is never kept", x.keeps(8, at(1, 0), at(1, 0)), 0);
        due("a wall is never kept", x.keeps(7, at(1, 0), at(1, 2)), 0);
        due("a wall is never kept", x.keeps(7, at(1, 2), at(1, 0)), 0);
        due("of others it is", x.keeps(1, at(1, 0), at(1, 0)), 1);
        due("wall", x.wall(at(1, 0), false), 1);
        due("walls count at once", x.keeps(7, at(0, 0), at(2, 0)), 1);
        due("off, too", x.turn(1, false), 1);
        due("off, too", x.keeps(1, at(1, 0), at(1, 0)), 1);
        due("measure", x.keeps(10, 0, 0), UNKNOWN);
        due("measure", x.keeps(-1, 0, 0), UNKNOWN);
        due("cell", x.keeps(0, 5, 0), UNKNOWN);
        due("cell", x.keeps(0, 0, 40), UNKNOWN);
        due("cell", x.keeps(0, -1, 0), UNKNOWN);
        due("cell", x.keeps(0, 0, 64), UNKNOWN);
    }

    private static void promise16() {
        HeardPlaces x = fieldOf(8, 1);
        due("none", x.quarrel(), NONE);
        due("anchor", x.thing(1, 0), 0);
        due("anchor", x.thing(1, 7), 1);
        due("thing", x.thing(0, 0), 2);
        due("thing", x.thing(0, 0), 3);
        due("measure", x.measure(1, 0, 2, 0, 9), 0);
        due("measure", x.measure(1, 1, 3, 0, 4), 1);
        due("none", x.quarrel(), NONE);
        due("measure", x.measure(1, 2, 3, 0, 1), 2);
        due("three", x.quarrel(), 3);
        due("measure", x.measure(1, 2, 3, 0, 0), 3);
        due("still three", x.quarrel(), 3);
        int[] least = {1, 1, 0, 1};
        for (int m = 0; m < 4; m++) {
            due("the least leaves the first out", x.told(m, 6), least[m]);
        }
        due("turn", x.turn(3, false), 1);
        due("three", x.quarrel(), 3);
        due("it comes back", x.told(2, 6), 1);
        due("turn", x.turn(2, false), 1);
        due("none", x.quarrel(), NONE);
        due("box", x.box(3, 0, 1, 7, 7), 0);
        due("an empty one", x.quarrel(), 0);
        due("in none", x.told(1, 6), 0);
        HeardPlaces y = fieldOf(2, 2);
        due("anchor", y.thing(1, 0), 0);
        due("anchor", y.thing(2, 9), 1);
        due("anchors quarrel, too", y.measure(1, 0, 1, 0, 1), 0);
        due("one", y.quarrel(), 1);
    }

    private static void promise17() {
        HeardPlaces x = fieldOf(4, 4);
        due("anchor", x.thing(1, 0), 0);
        for (int t = 1; t < 6; t++) {
            due("thing", x.thing(0, 0), t);
        }
        due("beacon", x.thing(2, 5 - 3), 6);
        due("measure", x.measure(1, 2, 1, 0, 98), 0);
        due("measure", x.measure(1, 2, 3, 0, 98), 1);
        due("measure", x.measure(1, 0, 3, 0, 98), 2);
        due("measure", x.measure(1, 4, 0, 0, 98), 3);
        due("measure", x.measure(1, 6, 0, 0, 98), 4);
        for (int t = 1; t < 4; t++) {
            due("group", x.group(t), bits(1, 2, 3));
        }
        due("not by an anchor", x.group(4), bits(4));
        due("alone", x.group(5), bits(5));
        due("an anchor", x.group(0), bits(0));
        due("a beacon", x.group(6), bits(6));
        due("turn", x.turn(1, false), 1);
        due("off", x.group(1), bits(1, 2));
        due("off", x.group(3), bits(3));
        due("measure", x.measure(1, 5, 1, 0, 98), 5);
        due("grown", x.group(2), bits(1, 2, 5));
        due("thing", x.group(7), 0);
        due("thing", x.group(-1), 0);
    }

    private static void promise18() {
        HeardPlaces x = fieldOf(2, 1);
        due("thing", x.thing(0, 0), 0);
        due("thing", x.thing(0, 0), 1);
        due("measure", x.measure(1, 0, 1, 0, 98), 0);
        due("placings", x.placings(0), 4);
        due("off at first", x.alone(false), 0);
        due("on", x.alone(true), 1);
        due("on", x.alone(true), 0);
        due("many", x.many(9), 1);
        due("placings", x.placings(0), 2);
        due("not narrowing", x.cells(0), 3);
        due("off", x.alone(false), 1);
        due("placings", x.placings(0), 4);
    }

    private static void promise19() {
        HeardPlaces x = fieldOf(3, 1);
        due("anchor", x.thing(1, 1), 0);
        due("thing", x.thing(0, 0), 1);
        due("thing", x.thing(0, 0), 2);
        due("one by itself", x.placings(1), 3);
        due("an anchor", x.placings(0), 1);
        due("measure", x.measure(0, 1, 2, 1, 1), 0);
        due("two", x.placings(1), 4);
        due("two", x.placings(2), 4);
        due("measure", x.measure(3, 1, 2, 0, 0), 1);
        due("both kept", x.placings(2), 2);
        due("alone", x.alone(true), 1);
        due("none on the anchor's", x.placings(2), 0);
        due("the anchor may stand", x.placings(0), 1);
        due("anchor", x.thing(2, 1), 3);
        due("two anchors on one cell", x.placings(0), 0);
        due("alone", x.alone(false), 1);
        due("measure", x.measure(1, 0, 1, 0, 0), 2);
        due("by the anchor", x.placings(1), 1);
        due("measure", x.measure(1, 0, 2, 0, 0), 3);
        due("a quarrel", x.placings(1), 0);
        due("a quarrel", x.placings(0), 0);
        due("thing", x.placings(4), UNKNOWN);
        due("thing", x.placings(-1), UNKNOWN);
        // NARROWED to no end, and yet without a PLACING: three on two CELLS, no two on one.
        HeardPlaces y = fieldOf(2, 1);
        for (int t = 0; t < 3; t++) {
            due("thing", y.thing(0, 0), t);
        }
        for (int t = 0; t < 3; t++) {
            due("measure", y.measure(2, t, (t + 1) % 3, 0, 0), t);
        }
        due("no quarrel", y.quarrel(), NONE);
        due("no placing", y.placings(0), 0);
        spentDue();
    }

    private static void spentDue() {
        HeardPlaces x = fieldOf(1, 1);
        for (int t = 0; t < 10; t++) {
            due("thing", x.thing(0, 0), t);
        }
        for (int t = 1; t < 9; t++) {
            due("measure", x.measure(1, t - 1, t, 0, 0), t - 1);
        }
        due("nine", x.placings(0), 1);
        due("measure", x.measure(1, 8, 9, 0, 0), 8);
        due("ten", x.placings(0), SPENT);
        due("just 60000", some60000(false).placings(0), 47040);
        due("one more", some60000(true).placings(0), SPENT);
    }

    /** Just 60000 TRIALS: 3 + 21 + 1176 + 11760 + 47040; one more with a THING of one CELL ahead. */
    private static HeardPlaces some60000(boolean oneMore) {
        HeardPlaces x = new HeardPlaces();
        int ahead = oneMore ? 1 : 0;
        int[][] boxes = {{2, 0}, {6, 0}, {6, 7}, {4, 1}, {1, 1}};
        if (oneMore) {
            due("thing", x.thing(0, 0), 0);
            due("box", x.box(0, 3, 3, 3, 3), 1);
        }
        for (int i = 0; i < boxes.length; i++) {
            due("thing", x.thing(0, 0), i + ahead);
            x.box(i + ahead, 0, 0, boxes[i][0], boxes[i][1]);
        }
        for (int t = 1; t < boxes.length + ahead; t++) {
            due("measure", x.measure(1, t - 1, t, 0, 98), t - 1);
        }
        return x;
    }

    /** THINGS 1 and 2 side by side on three CELLS: (0, 1), (1, 0), (1, 2), (2, 1); 0 is an ANCHOR apart. */
    private static HeardPlaces pair() {
        HeardPlaces x = fieldOf(3, 1);
        due("anchor", x.thing(1, 1), 0);
        due("thing", x.thing(0, 0), 1);
        due("thing", x.thing(0, 0), 2);
        due("measure", x.measure(0, 2, 1, 1, 1), 0);
        return x;
    }

    private static void promise20() {
        HeardPlaces x = pair();
        due("ahead of any", x.trials(), 0);
        due("placings", x.placings(2), 4);
        due("trials", x.trials(), 12);
        due("placings", x.placings(0), 1);
        due("trials", x.trials(), 1);
        due("nth is no placings()", x.nth(1, 0), 0);
        due("trials", x.trials(), 1);
        due("unknown", x.placings(3), UNKNOWN);
        due("trials", x.trials(), 1);
        due("alone", x.alone(true), 1);
        due("placings", x.placings(1), 0);
        due("trials", x.trials(), 9);
        due("field", x.field(1, 1), 1);
        due("trials", x.trials(), 9);
        for (int t = 0; t < 10; t++) {
            due("thing", x.thing(0, 0), t);
        }
        for (int t = 1; t < 10; t++) {
            due("measure", x.measure(1, t - 1, t, 0, 0), t - 1);
        }
        due("placings", x.placings(9), SPENT);
        due("spent by things", x.trials(), 0);
        HeardPlaces y = some60000(false);
        due("placings", y.placings(2), 47040);
        due("trials", y.trials(), 60000);
        HeardPlaces z = some60000(true);
        due("placings", z.placings(0), SPENT);
        due("spent by trials", z.trials(), 60000);
    }

    private static void promise21() {
        HeardPlaces x = pair();
        int[] first = {0, 1, 1, 2};
        int[] second = {1, 0, 2, 1};
        for (int n = 0; n < 4; n++) {
            due("nth", x.nth(1, n), first[n]);
            due("nth", x.nth(2, n), second[n]);
        }
        due("anchor", x.nth(0, 0), 1);
        due("n", x.nth(1, 4), UNKNOWN);
        due("n", x.nth(1, -1), UNKNOWN);
        due("n", x.nth(0, 1), UNKNOWN);
        due("thing", x.nth(3, 0), UNKNOWN);
        due("thing", x.nth(-1, 0), UNKNOWN);
        HeardPlaces y = some60000(true);
        due("spent", y.nth(0, 0), SPENT);
        due("unknown ahead of spent", y.nth(0, -1), UNKNOWN);
        due("unknown ahead of spent", y.nth(6, 0), UNKNOWN);
        HeardPlaces z = some60000(false);
        due("the last", z.nth(0, 47039), 2);
        due("the last", z.nth(2, 47039), 62);
        due("the last", z.nth(4, 47039), 9);
        due("the last but one", z.nth(4, 47038), 8);
        due("none", z.nth(4, 47040), UNKNOWN);
    }

    private static void promise22() {
        HeardPlaces x = pair();
        due("anchor", x.sure(0), 1);
        due("not sure", x.sure(1), NONE);
        due("box", x.box(2, 1, 0, 1, 0), 1);
        due("sure", x.sure(2), 1);
        due("not sure", x.sure(1), NONE);
        due("box", x.box(1, 1, 0, 2, 0), 2);
        due("sure", x.sure(1), 2);
        due("box", x.box(1, 0, 0, 0, 0), 1);
        due("sure of the first cell", x.sure(1), 0);
        due("box", x.box(1, 1, 0, 1, 0), 1);
        due("no placing", x.sure(1), NONE);
        due("no placing", x.sure(2), NONE);
        due("thing", x.sure(3), UNKNOWN);
        due("thing", x.sure(-1), UNKNOWN);
        due("spent", some60000(true).sure(0), SPENT);
        // Of more CELLS as NARROWED, sure by ALONE.
        HeardPlaces y = fieldOf(2, 1);
        due("thing", y.thing(0, 0), 0);
        due("thing", y.thing(0, 0), 1);
        due("box", y.box(0, 0, 0, 0, 0), 1);
        due("measure", y.measure(1, 0, 1, 0, 1), 0);
        due("not sure", y.sure(1), NONE);
        due("alone", y.alone(true), 1);
        due("narrowed", y.about(1, 2), 2);
        due("sure", y.sure(1), 1);
    }

    private static void promise23() {
        HeardPlaces x = pair();
        due("anchor", x.could(0), 1);
        due("could", x.could(1), 3);
        due("box", x.box(2, 1, 0, 1, 0), 1);
        due("could", x.could(1), 2);
        due("could", x.could(2), 1);
        due("turn", x.turn(0, false), 1);
        due("could", x.could(1), 3);
        due("alone", x.alone(true), 1);
        due("not on the anchor's", x.could(1), 2);
        due("none", x.could(2), 0);
        due("thing", x.could(3), UNKNOWN);
        due("thing", x.could(-1), UNKNOWN);
        due("spent", some60000(true).could(0), SPENT);
    }

    private static void promise24() {
        HeardPlaces x = pair();
        due("thing", x.thing(0, 0), 3);
        due("box", x.box(3, 2, 0, 2, 0), 1);
        for (int c = 0; c < 3; c++) {
            for (int d = 0; d < 3; d++) {
                int apart = Math.abs(c - d);
                due("together", x.together(1, c, 2, d), apart == 1 ? 1 : 0);
                due("together", x.together(2, c, 1, d), apart == 1 ? 1 : 0);
                due("itself", x.together(1, c, 1, d), apart == 0 ? 1 : 0);
                due("unlike groups", x.together(1, c, 3, d), d == 2 ? 1 : 0);
                due("unlike groups", x.together(3, d, 1, c), d == 2 ? 1 : 0);
                due("an anchor", x.together(0, c, 3, d), c == 1 && d == 2 ? 1 : 0);
            }
        }
        due("alone", x.alone(true), 1);
        due("alone counts no other group's things", x.together(3, 2, 0, 1), 1);
        due("no placing", x.together(3, 2, 1, 0), 0);
        due("no placing", x.together(1, 0, 3, 2), 0);
        due("no placing", x.together(1, 0, 1, 0), 0);
        due("thing", x.together(4, 0, 1, 0), UNKNOWN);
        due("thing", x.together(1, 0, -1, 0), UNKNOWN);
        due("cell", x.together(1, 3, 1, 0), UNKNOWN);
        due("cell", x.together(1, 0, 1, 8), UNKNOWN);
        due("cell", x.together(1, -1, 1, 0), UNKNOWN);
        HeardPlaces y = some60000(true);
        due("thing", y.thing(0, 0), 6);
        due("spent", y.together(0, 0, 6, 0), SPENT);
        due("spent", y.together(6, 0, 0, 0), SPENT);
        due("spent", y.together(0, 0, 0, 1), SPENT);
        due("spent, though the first has none", y.box(6, 0, 0, 0, 0), 1);
        due("spent", y.together(6, 1, 0, 0), SPENT);
        due("not spent", y.together(6, 0, 6, 0), 1);
        due("cell ahead of spent", y.together(0, 64, 0, 0), UNKNOWN);
    }

    private static void promise25() {
        HeardPlaces x = pair();
        due("the first of both", x.ask(2, 0), 1);
        due("worst", x.ask(2, 1), 2);
        due("box", x.box(1, 1, 0, 1, 0), 1);
        due("the second", x.ask(1, 0), 2);
        due("worst", x.ask(1, 1), 1);
        due("anchor", x.ask(0, 0), 0);
        due("anchor", x.ask(0, 1), 1);
        due("box", x.box(2, 1, 0, 1, 0), 1);
        due("no placing", x.ask(2, 0), 1);
        due("no placing", x.ask(2, 1), 0);
        due("what", x.ask(1, 2), OUTSIDE);
        due("what", x.ask(1, -1), OUTSIDE);
        due("thing ahead of what", x.ask(3, 2), UNKNOWN);
        due("thing", x.ask(-1, 0), UNKNOWN);
        due("thing", x.thing(0, 0), 3);
        due("measure", x.measure(1, 2, 3, 0, 98), 1);
        due("turn", x.turn(0, false), 1);
        due("one cell", x.ask(1, 1), 1);
        due("box", x.box(1, 0, 0, 0, 0), 1);
        due("the first cell", x.ask(1, 1), 1);
        due("measure", x.measure(1, 1, 2, 0, 98), 2);
        due("box", x.box(2, 0, 0, 7, 7), 3);
        due("box", x.box(3, 1, 0, 2, 0), 2);
        due("the least of three", x.ask(3, 0), 2);
        due("worst", x.ask(3, 1), 2);
        HeardPlaces y = some60000(true);
        due("what ahead of spent", y.ask(0, 2), OUTSIDE);
        due("spent", y.ask(0, 0), SPENT);
        due("spent", y.ask(0, 1), SPENT);
    }

    private static void promise26() {
        HeardPlaces x = pair();
        int[] both = {1, 2, 4};
        for (int what = 0; what < 3; what++) {
            due("between", x.between(2, what), both[what]);
            due("anchor", x.between(0, what), NONE);
        }
        due("thing", x.thing(0, 0), 3);
        due("by itself", x.between(3, 0), NONE);
        due("measure", x.measure(1, 2, 3, 0, 4), 1);
        due("box", x.box(1, 1, 0, 1, 0), 1);
        int[] best = {2, 3, 2};
        for (int what = 0; what < 3; what++) {
            due("between", x.between(1, what), best[what]);
        }
        due("what", x.between(1, 3), OUTSIDE);
        due("what", x.between(1, -1), OUTSIDE);
        due("what of one by itself", x.between(0, 3), OUTSIDE);
        due("thing ahead of what", x.between(4, 3), UNKNOWN);
        due("thing", x.between(-1, 0), UNKNOWN);
        due("box", x.box(2, 1, 0, 1, 0), 1);
        int[] none = {1, 2, 0};
        for (int what = 0; what < 3; what++) {
            due("no placing", x.between(3, what), none[what]);
        }
        HeardPlaces y = some60000(true);
        due("what ahead of spent", y.between(0, 3), OUTSIDE);
        due("spent", y.between(0, 2), SPENT);
        HeardPlaces far = new HeardPlaces();
        due("thing", far.thing(0, 0), 0);
        due("thing", far.thing(0, 0), 1);
        due("measure", far.measure(0, 0, 1, 98, 98), 0);
        due("as far as can be", far.between(0, 2), 4);
        // Of like pairs the first: all three on one CELL.
        HeardPlaces z = fieldOf(1, 1);
        for (int t = 0; t < 3; t++) {
            due("thing", z.thing(0, 0), t);
        }
        due("measure", z.measure(1, 2, 1, 0, 0), 0);
        due("measure", z.measure(1, 2, 0, 0, 0), 1);
        int[] first = {0, 1, 1};
        for (int what = 0; what < 3; what++) {
            due("between", z.between(2, what), first[what]);
        }
    }

    private static void promise27() {
        HeardPlaces x = pair();
        due("put", x.put(1, 0), NONE);
        due("put", x.put(1, 2), 0);
        due("put", x.put(1, 2), 2);
        due("wall", x.wall(0, true), 1);
        due("a wall, too", x.put(1, 0), 2);
        due("about", x.about(1, 5), 0);
        due("an anchor, too", x.put(0, 2), NONE);
        due("about", x.about(0, 5), 2);
        due("its cell is as it was", x.cells(0), 2);
        due("many", x.many(7), 2);
        due("none any more", x.put(1, -9), 0);
        due("none any more", x.put(1, -9), NONE);
        due("about", x.about(1, 5), NONE);
        due("many", x.many(7), 1);
        due("cell", x.put(0, 3), UNKNOWN);
        due("cell", x.put(0, 8), UNKNOWN);
        due("cell", x.put(0, -1), UNKNOWN);
        due("cell", x.put(0, -10), UNKNOWN);
        due("cell", x.put(0, 64), UNKNOWN);
        due("thing", x.put(3, 0), UNKNOWN);
        due("thing", x.put(-1, -9), UNKNOWN);
        due("nothing changed", x.about(0, 5), 2);
    }

    private static void promise28() {
        HeardPlaces x = pair();
        due("put", x.put(0, 0), NONE);
        due("take", x.take(2, 2), 2);
        due("map", x.about(1, 5), 1);
        due("map", x.about(2, 5), 2);
        due("no other", x.about(0, 5), 0);
        due("anchor", x.take(0, 0), 1);
        due("map", x.about(0, 5), 1);
        due("n", x.take(1, 4), UNKNOWN);
        due("n", x.take(1, -1), UNKNOWN);
        due("thing", x.take(3, 0), UNKNOWN);
        due("thing", x.take(-1, 0), UNKNOWN);
        due("nothing changed", x.about(2, 5), 2);
        HeardPlaces y = some60000(true);
        due("spent", y.take(0, 0), SPENT);
        due("n ahead of spent", y.take(0, -1), UNKNOWN);
        due("nothing changed", y.many(7), 0);
    }

    private static void promise29() {
        HeardPlaces x = fieldOf(4, 1);
        due("empty", x.check(), 1);
        due("anchor", x.thing(1, 0), 0);
        for (int t = 1; t < 4; t++) {
            due("thing", x.thing(0, 0), t);
        }
        due("measure", x.measure(1, 0, 1, 0, 1), 0);
        due("measure", x.measure(0, 1, 2, 1, 4), 1);
        due("measure", x.measure(4, 2, 3, 1, 1), 2);
        due("put", x.put(1, 3), NONE);
        due("those without a cell don't count", x.check(), 1);
        due("put", x.put(2, 3), NONE);
        due("measure 1", x.check(), -21);
        due("put", x.put(0, 0), NONE);
        due("the first measure", x.check(), -20);
        due("alone", x.alone(true), 1);
        due("alone ahead of measures", x.check(), -202);
        due("put", x.put(3, 3), NONE);
        due("the first", x.check(), -202);
        due("put", x.put(2, 1), 3);
        due("the next", x.check(), -203);
        due("wall", x.wall(3, true), 1);
        due("told ahead of alone", x.check(), -101);
        due("put", x.put(0, 2), 0);
        due("the first", x.check(), -100);
        due("put", x.put(0, 0), 2);
        due("put", x.put(1, 1), 3);
        due("the last", x.check(), -103);
        due("put", x.put(3, -9), 3);
        due("alone", x.check(), -202);
        due("put", x.put(2, 2), 1);
        due("right", x.check(), 1);
        due("box", x.box(2, 0, 0, 1, 0), 2);
        due("its box", x.check(), -102);
        due("put", x.put(2, -9), 2);
        due("right", x.check(), 1);
        due("wall", x.wall(3, false), 1);
        due("put", x.put(1, 2), 1);
        due("measure 0", x.check(), -20);
        due("turn", x.turn(0, false), 1);
        due("those that are off don't count", x.check(), 1);
        due("box", x.box(2, 0, 0, 7, 7), 4);
        due("put", x.put(2, 1), NONE);
        due("put", x.put(3, 3), NONE);
        due("steps", x.check(), -22);
        due("put", x.put(3, 0), 3);
        due("alone", x.check(), -203);
        due("alone", x.alone(false), 1);
        due("right", x.check(), 1);
        due("wall", x.wall(1, true), 1);
        due("put", x.put(2, 0), 1);
        due("put", x.put(1, 0), 2);
        due("measure 1 is off", x.turn(1, false), 1);
        due("put", x.put(3, 2), 0);
        due("the steps are barred", x.check(), -22);
        due("wall", x.wall(1, false), 1);
        due("two steps", x.check(), -22);
        due("put", x.put(3, 1), 2);
        due("right", x.check(), 1);
    }

    /** ANCHORS 0 at (0, 3), 1 at (4, 3), and THING 2 at (2, 5), at DISTANCE 8 of each. */
    private static HeardPlaces mirror() {
        HeardPlaces x = new HeardPlaces();
        due("anchor", x.thing(1, at(0, 3)), 0);
        due("anchor", x.thing(1, at(4, 3)), 1);
        due("thing", x.thing(0, 0), 2);
        due("measure", x.measure(0, 0, 2, 8, 8), 0);
        due("measure", x.measure(0, 2, 1, 8, 8), 1);
        due("state", x.flips(2), STATE);
        due("put", x.put(2, at(2, 5)), NONE);
        due("no joints on the map", x.flips(2), 0);
        due("put", x.put(1, at(4, 3)), NONE);
        due("one joint is not enough", x.flips(2), 0);
        due("put", x.put(0, at(0, 3)), NONE);
        due("put", x.put(1, -9), at(4, 3));
        due("nor the other", x.flips(2), 0);
        due("put", x.put(1, at(4, 3)), NONE);
        return x;
    }

    private static void flipDue(HeardPlaces x, int t, int i, int first, int second, int turning, int part) {
        due("first joint of " + i, x.flip(t, i, 0), first);
        due("second joint of " + i, x.flip(t, i, 1), second);
        due("turning of " + i, x.flip(t, i, 2), turning);
        due("part of " + i, x.flip(t, i, 3), part);
    }

    private static void promise30() {
        HeardPlaces x = mirror();
        due("about both", x.flips(2), 1);
        due("box", x.box(2, 0, 2, 7, 7), 48);
        due("not told", x.flips(2), 0);
        due("box", x.box(2, 0, 0, 7, 7), 64);
        due("thing", x.thing(0, 0), 3);
        due("put", x.put(3, at(2, 1)), NONE);
        due("not alone", x.flips(2), 1);
        due("alone", x.alone(true), 1);
        due("on another's cell", x.flips(2), 0);
        due("alone", x.alone(false), 1);
        due("turn", x.turn(1, false), 1);
        due("about the first", x.flips(2), 2);
        due("turn", x.turn(0, false), 1);
        due("about none", x.flips(2), 0);
        due("turn", x.turn(0, true), 1);
        due("turn", x.turn(1, true), 1);
        due("measure", x.measure(3, 0, 2, 1, 0), 2);
        due("a measure is not kept", x.flips(2), 0);
        due("turn", x.turn(2, false), 1);
        due("again", x.flips(2), 1);
        due("put", x.put(0, at(0, 4)), at(0, 3));
        due("turned about the map's cell", x.flips(2), 0);
        due("put", x.put(1, at(4, 4)), at(4, 3));
        due("not as far", x.flips(2), 0);
        due("put", x.put(2, at(2, 6)), at(2, 5));
        due("the same", x.flips(2), 1);
        due("its cell", x.flip(2, 0, 3), bits(2));
        due("thing", x.flips(4), UNKNOWN);
        due("thing", x.flips(-1), UNKNOWN);
        due("an anchor's", x.flips(0), 0);
        due("put", x.put(0, -9), at(0, 4));
        due("state of an anchor", x.flips(0), STATE);
        flipsAtEdges();
        flipsCrowded();
        flipsBySteps();
        // Nothing moves that stands on the JOINT.
        HeardPlaces y = fieldOf(3, 3);
        due("anchor", y.thing(1, at(1, 1)), 0);
        due("thing", y.thing(0, 0), 1);
        due("measure", y.measure(1, 0, 1, 0, 8), 0);
        due("put", y.put(0, at(1, 1)), NONE);
        due("put", y.put(1, at(1, 1)), NONE);
        due("none moves", y.flips(1), 0);
        due("put", y.put(1, at(2, 1)), at(1, 1));
        due("three sides, twice but one", y.flips(1), 6);
        due("put", y.put(1, at(2, 2)), at(2, 1));
        due("three corners, twice but one", y.flips(1), 6);
        due("wall", y.wall(at(0, 0), true), 1);
        due("no wall", y.flips(1), 4);
        due("field", y.field(2, 2), 4);
        due("anchor", y.thing(1, at(0, 0)), 0);
        due("thing", y.thing(0, 0), 1);
        due("measure", y.measure(1, 0, 1, 0, 8), 0);
        due("put", y.put(0, at(0, 0)), NONE);
        due("put", y.put(1, at(1, 0)), NONE);
        due("within the field", y.flips(1), 2);
    }

    private static HeardPlaces hung(int joint, int cell) {
        HeardPlaces x = new HeardPlaces();
        due("anchor", x.thing(1, joint), 0);
        due("thing", x.thing(0, 0), 1);
        due("measure", x.measure(1, 0, 1, 0, 98), 0);
        due("put", x.put(0, joint), NONE);
        due("put", x.put(1, cell), NONE);
        return x;
    }

    private static void flipsAtEdges() {
        due("beyond the right", hung(at(6, 5), at(7, 7)).flips(1), 5);
        due("beyond the bottom", hung(at(5, 6), at(7, 7)).flips(1), 5);
        due("beyond the left", hung(at(1, 2), at(0, 0)).flips(1), 5);
        due("beyond the top", hung(at(2, 1), at(0, 0)).flips(1), 5);
        HeardPlaces x = hung(at(6, 6), at(5, 6));
        due("thing of no cell", x.thing(0, 0), 2);
        due("alone", x.alone(true), 1);
        due("one of no cell bars none", x.flips(1), 6);
        due("put", x.put(2, at(6, 5)), NONE);
        due("one that has a cell does", x.flips(1), 4);
    }

    private static void flipsCrowded() {
        HeardPlaces x = hung(at(3, 3), at(3, 4));
        due("thing", x.thing(0, 0), 2);
        due("measure", x.measure(1, 1, 2, 0, 0), 1);
        due("put", x.put(2, at(3, 4)), NONE);
        due("two on one", x.flips(1), 6);
        due("alone", x.alone(true), 1);
        due("two on one", x.flips(1), 0);
    }

    private static void flipsBySteps() {
        HeardPlaces y = fieldOf(3, 3);
        due("anchor", y.thing(1, at(1, 1)), 0);
        due("thing", y.thing(0, 0), 1);
        due("measure", y.measure(3, 0, 1, 0, 0), 0);
        due("put", y.put(0, at(1, 1)), NONE);
        due("put", y.put(1, at(2, 1)), NONE);
        due("no other side", y.flips(1), 0);
        HeardPlaces x = hung(at(3, 3), at(3, 5));
        due("measure", x.measure(4, 0, 1, 2, 1), 1);
        due("flips", x.flips(1), 6);
        due("wall", x.wall(at(3, 2), true), 1);
        due("walls count at once", x.flips(1), 4);
        due("wall", x.wall(at(2, 3), true), 1);
        due("walls count at once", x.flip(1, 2, 0), UNKNOWN);
        due("wall", x.wall(at(3, 2), false), 1);
        due("walls count at once", x.flip(1, 3, 0), 0);
    }

    private static void promise31() {
        HeardPlaces x = mirror();
        flipDue(x, 2, 0, 0, 1, 5, bits(2));
        due("turn", x.turn(1, false), 1);
        flipDue(x, 2, 0, 0, NONE, 3, bits(2));
        flipDue(x, 2, 1, 0, NONE, 5, bits(2));
        due("what", x.flip(2, 1, 4), OUTSIDE);
        due("what", x.flip(2, 1, -1), OUTSIDE);
        due("i ahead of what", x.flip(2, 2, 4), UNKNOWN);
        due("i", x.flip(2, -1, 0), UNKNOWN);
        due("thing", x.flip(3, 0, 4), UNKNOWN);
        due("thing", x.flip(-1, 0, 0), UNKNOWN);
        due("put", x.put(2, -9), at(2, 5));
        due("state ahead of i", x.flip(2, -1, 4), STATE);
        int[][] turned = {{-2, 1}, {-1, -2}, {2, -1}, {-1, 2}, {1, -2}, {2, 1}, {-2, -1}};
        HeardPlaces z = hung(at(3, 3), at(4, 5));
        due("all", z.flips(1), 7);
        for (int i = 0; i < 7; i++) {
            flipDue(z, 1, i, 0, NONE, i + 1, bits(1));
            due("flipped", z.flipped(1, i), 1);
            due("turned", z.put(1, at(4, 5)), at(3 + turned[i][0], 3 + turned[i][1]));
        }
        // A row of THINGS, each beside the last one; joints of the group, one ahead of two.
        HeardPlaces y = fieldOf(2, 2);
        int[] cells = {at(0, 0), at(1, 0), at(1, 1)};
        for (int t = 0; t < 3; t++) {
            due("thing", y.thing(0, 0), t);
            due("put", y.put(t, cells[t]), NONE);
        }
        due("measure", y.measure(0, 0, 1, 1, 1), 0);
        due("measure", y.measure(0, 1, 2, 1, 1), 1);
        due("flips", y.flips(1), 7);
        flipDue(y, 0, 0, 0, NONE, 6, bits(1, 2));
        flipDue(y, 0, 1, 1, NONE, 3, bits(0));
        flipDue(y, 0, 2, 1, NONE, 7, bits(0));
        flipDue(y, 0, 3, 1, NONE, 1, bits(2));
        flipDue(y, 0, 4, 1, NONE, 7, bits(2));
        flipDue(y, 0, 5, 2, NONE, 6, bits(0, 1));
        flipDue(y, 0, 6, 0, 2, 6, bits(1));
        due("alone", y.alone(true), 1);
        due("of those alone", y.flips(2), 3);
        flipDue(y, 0, 0, 0, NONE, 6, bits(1, 2));
        flipDue(y, 0, 1, 2, NONE, 6, bits(0, 1));
        flipDue(y, 0, 2, 0, 2, 6, bits(1));
        due("measure", y.measure(1, 0, 2, 0, 2), 2);
        due("a ring", y.flips(2), 4);
        // Two of the PART change their CELLS, which are no other's.
        flipDue(y, 1, 1, 1, NONE, 7, bits(0, 2));
        flipDue(y, 1, 3, 0, 2, 6, bits(1));
    }

    private static void promise32() {
        HeardPlaces x = mirror();
        due("put", x.put(0, at(0, 3)), at(0, 3));
        due("flipped", x.flipped(2, 0), 1);
        due("map", x.about(2, 5), at(2, 1));
        due("joints stay", x.about(0, 5), at(0, 3));
        due("right", x.check(), 1);
        due("and back", x.flipped(2, 0), 1);
        due("map", x.about(2, 5), at(2, 5));
        due("i", x.flipped(2, 1), UNKNOWN);
        due("i", x.flipped(2, -1), UNKNOWN);
        due("thing", x.flipped(3, 0), UNKNOWN);
        due("thing", x.flipped(-1, 0), UNKNOWN);
        due("nothing changed", x.about(2, 5), at(2, 5));
        due("put", x.put(2, -9), at(2, 5));
        due("state", x.flipped(2, 9), STATE);
        HeardPlaces z = fieldOf(2, 2);
        due("thing", z.thing(0, 0), 0);
        due("thing", z.thing(0, 0), 1);
        due("measure", z.measure(1, 0, 1, 0, 1), 0);
        due("put", z.put(0, 0), NONE);
        due("put", z.put(1, 1), NONE);
        due("the second", z.flipped(0, 1), 1);
        due("stays", z.about(0, 5), 0);
        due("moves", z.about(1, 5), 8);
        due("about itself", z.flip(0, 2, 3), bits(0));
        due("the first", z.flipped(0, 2), 1);
        due("moves", z.about(0, 5), 9);
        // Of a PART of two one moves alone: it lies aside of the line that the other lies on.
        HeardPlaces y = fieldOf(3, 3);
        due("anchor", y.thing(1, at(0, 1)), 0);
        due("thing", y.thing(0, 0), 1);
        due("thing", y.thing(0, 0), 2);
        due("measure", y.measure(0, 0, 1, 1, 1), 0);
        due("measure", y.measure(0, 1, 2, 1, 1), 1);
        due("measure", y.measure(3, 0, 1, 0, 0), 2);
        due("put", y.put(0, at(0, 1)), NONE);
        due("put", y.put(1, at(1, 1)), NONE);
        due("put", y.put(2, at(1, 2)), NONE);
        flipDue(y, 1, 0, 0, NONE, 5, bits(1, 2));
        due("one of two moves", y.flipped(1, 0), 1);
        due("map", y.about(1, 5), at(1, 1));
        due("map", y.about(2, 5), at(1, 0));
    }

    private static void promise33() {
        HeardPlaces x = fieldOf(3, 1);
        due("thing", x.thing(0, 0), 0);
        due("thing", x.thing(0, 0), 1);
        due("measure", x.measure(2, 0, 1, 0, 0), 0);
        due("mover", x.mover(3, 1), 0);
        due("many", x.many(4), 1);
        due("things", x.many(1), 5);
        due("measures", x.many(2), 3);
        int[][] due = {{1, 2, 3, 0, 1, 1}, {1, 3, 4, 0, 1, 1}};
        for (int i = 0; i < 2; i++) {
            for (int what = 0; what < 6; what++) {
                due("told", x.told(1 + i, what), due[i][what]);
            }
        }
        for (int t = 2; t < 5; t++) {
            due("kind", x.about(t, 0), 0);
            due("told", x.about(t, 1), 3);
            due("mover", x.about(t, 7), 0);
            due("tick", x.about(t, 8), t - 2);
        }
        due("n", x.mover(1, 0), OUTSIDE);
        due("n", x.mover(9, 0), OUTSIDE);
        due("r", x.mover(2, -1), OUTSIDE);
        due("r", x.mover(2, 99), OUTSIDE);
        due("n", x.mover(Integer.MAX_VALUE, 0), OUTSIDE);
        due("no reach", x.mover(2, 0), 1);
        due("all", x.mover(8, 98), 2);
        due("full of movers", x.mover(2, 0), FULL);
        due("outside ahead of full", x.mover(1, 0), OUTSIDE);
        due("things", x.many(1), 15);
        due("measures", x.many(2), 11);
        HeardPlaces y = fieldOf(1, 1);
        for (int t = 0; t < 17; t++) {
            due("thing", y.thing(0, 0), t);
        }
        due("full of things", y.mover(8, 0), FULL);
        due("many", y.many(1), 17);
        due("just room", y.mover(7, 0), 0);
        due("full of things", y.mover(2, 0), FULL);
        HeardPlaces z = fieldOf(1, 1);
        due("thing", z.thing(0, 0), 0);
        due("thing", z.thing(0, 0), 1);
        for (int m = 0; m < 57; m++) {
            due("measure", z.measure(1, 0, 1, 0, 0), m);
        }
        due("full of measures", z.mover(5, 0), FULL);
        due("many", z.many(1), 2);
        due("just room", z.mover(4, 0), 0);
        due("full of measures", z.mover(2, 0), FULL);
        due("many", z.many(2), 60);
    }

    private static void promise34() {
        HeardPlaces x = fieldOf(3, 1);
        due("thing", x.thing(0, 0), 0);
        due("mover", x.mover(3, 1), 0);
        due("thing", x.thing(0, 0), 4);
        due("mover", x.mover(2, 1), 1);
        for (int t = 0; t < 3; t++) {
            due("tick", x.tick(0, t), 1 + t);
        }
        due("tick", x.tick(1, 0), 5);
        due("tick", x.tick(1, 1), 6);
        due("tick", x.tick(0, 3), UNKNOWN);
        due("tick", x.tick(1, 2), UNKNOWN);
        due("tick", x.tick(0, -1), UNKNOWN);
        due("mover", x.tick(2, 0), UNKNOWN);
        due("mover", x.tick(-1, 0), UNKNOWN);
    }

    private static void promise35() {
        HeardPlaces x = fieldOf(3, 1);
        due("none", x.ways(0), LOST);
        due("mover", x.mover(3, 1), 0);
        due("ways", x.ways(0), 17);
        due("box", x.box(1, 1, 0, 1, 0), 1);
        due("ways", x.ways(0), 9);
        due("box", x.box(0, 0, 0, 0, 0), 1);
        due("ways", x.ways(0), 3);
        due("turn", x.turn(1, false), 1);
        due("reach counts though it is off", x.ways(0), 3);
        due("box", x.box(1, 0, 0, 0, 0), 1);
        due("reach counts though it is off", x.ways(0), 2);
        due("turn", x.turn(1, true), 1);
        due("anchor", x.thing(1, 2), 3);
        due("measure", x.measure(1, 2, 3, 0, 1), 2);
        due("narrowed", x.ways(0), 1);
        due("alone", x.alone(true), 1);
        due("alone does not count", x.ways(0), 1);
        due("measure", x.measure(1, 2, 3, 0, 0), 3);
        due("a quarrel", x.ways(0), 0);
        due("mover", x.ways(1), LOST);
        due("mover", x.ways(-1), LOST);
        HeardPlaces y = new HeardPlaces();
        due("mover", y.mover(8, 98), 0);
        due("all", y.ways(0), 1L << 48);
    }

    private static void promise36() {
        HeardPlaces x = fieldOf(3, 1);
        due("mover", x.mover(3, 1), 0);
        int[][] ways = {{0, 0, 0}, {0, 0, 1}, {0, 1, 0}, {0, 1, 1}, {0, 1, 2}, {1, 0, 0}, {1, 0, 1}, {1, 1, 0},
            {1, 1, 1}, {1, 1, 2}, {1, 2, 1}, {1, 2, 2}, {2, 1, 0}, {2, 1, 1}, {2, 1, 2}, {2, 2, 1}, {2, 2, 2}};
        for (int n = 0; n < ways.length; n++) {
            for (int t = 0; t < 3; t++) {
                due("way", x.way(0, n, t), ways[n][t]);
            }
        }
        due("n", x.way(0, 17, 0), UNKNOWN);
        due("n", x.way(0, -1, 0), UNKNOWN);
        due("n", x.way(0, LOST, 0), UNKNOWN);
        due("tick", x.way(0, 0, 3), UNKNOWN);
        due("tick", x.way(0, 0, -1), UNKNOWN);
        due("mover", x.way(1, 0, 0), UNKNOWN);
        due("mover", x.way(-1, 0, 0), UNKNOWN);
        due("turn", x.turn(0, false), 1);
        due("reach counts though it is off", x.way(0, 4, 1), 1);
        HeardPlaces y = new HeardPlaces();
        due("mover", y.mover(8, 98), 0);
        long last = (1L << 48) - 1;
        for (int t = 0; t < 8; t++) {
            due("the last", y.way(0, last, t), 63);
            due("one of many", y.way(0, 0x123456789abcL, t), 0x123456789abcL >>> 6 * (7 - t) & 63);
        }
        due("n", y.way(0, last + 1, 0), UNKNOWN);
    }

    private static void promise37() {
        HeardPlaces x = fieldOf(2, 1);
        due("thing", x.thing(0, 0), 0);
        due("beacon", x.thing(2, 0), 1);
        due("not at first", x.trust(0, false), 0);
        due("trusted", x.trust(0, true), 1);
        due("trusted", x.trust(0, true), 0);
        due("about", x.about(0, 6), 1);
        due("about", x.about(1, 6), 0);
        due("a beacon", x.trust(1, true), 1);
        due("about", x.about(1, 6), 1);
        due("not", x.trust(0, false), 1);
        due("not", x.trust(0, false), 0);
        due("about", x.about(0, 6), 0);
        due("thing", x.trust(2, true), UNKNOWN);
        due("thing", x.trust(-1, true), UNKNOWN);
    }

    /** THING 3 is heard by ANCHORS 0 at the left, 1 at the right, and BEACON 2 at the left. */
    private static HeardPlaces lying() {
        HeardPlaces x = fieldOf(8, 1);
        due("anchor", x.thing(1, 0), 0);
        due("anchor", x.thing(1, 7), 1);
        due("beacon", x.thing(2, 0), 2);
        due("thing", x.thing(0, 0), 3);
        for (int t = 0; t < 3; t++) {
            due("measure", x.measure(1, t, 3, 0, 1), t);
        }
        return x;
    }

    /** Two THINGS that each hear both ends, which are TRUSTED. */
    private static HeardPlaces lyingTwice() {
        HeardPlaces x = fieldOf(8, 1);
        due("anchor", x.thing(1, 0), 0);
        due("anchor", x.thing(1, 7), 1);
        due("thing", x.thing(0, 0), 2);
        due("thing", x.thing(0, 0), 3);
        for (int m = 0; m < 4; m++) {
            due("measure", x.measure(1, m & 1, 2 + (m >> 1), 0, 1), m);
        }
        due("trust", x.trust(0, true), 1);
        due("trust", x.trust(1, true), 1);
        return x;
    }

    private static void promise38() {
        HeardPlaces x = lying();
        due("size", x.liars(0), 1);
        due("sets", x.liars(1), 2);
        due("trust", x.trust(3, true), 1);
        due("size", x.liars(0), 1);
        due("sets", x.liars(1), 1);
        due("trust", x.trust(1, true), 1);
        due("none does", x.liars(0), NONE);
        due("none does", x.liars(1), NONE);
        due("turn", x.turn(1, false), 1);
        due("nobody lies", x.liars(0), 0);
        due("nobody lies", x.liars(1), 1);
        due("what", x.liars(2), OUTSIDE);
        due("what", x.liars(-1), OUTSIDE);
        HeardPlaces y = lyingTwice();
        due("size", y.liars(0), 2);
        due("sets", y.liars(1), 1);
        due("thing", y.thing(0, 0), 4);
        due("measure", y.measure(1, 2, 4, 0, 98), 4);
        due("one more that hears nothing wrong", y.liars(1), 1);
        due("measure", y.measure(1, 0, 4, 0, 1), 5);
        due("measure", y.measure(1, 1, 4, 0, 1), 6);
        due("three lie", y.liars(0), NONE);
        due("trust", y.trust(1, false), 1);
        due("one does", y.liars(0), 1);
        due("trust", y.trust(1, true), 1);
        due("trust", y.trust(4, true), 1);
        due("what ahead of none", y.liars(2), OUTSIDE);
        due("no cell without any measure", x.box(3, 0, 1, 7, 7), 0);
        due("none does", x.liars(0), NONE);
    }

    private static void promise39() {
        HeardPlaces x = lying();
        int[] lies = {0, 1, 0, 1};
        for (int t = 0; t < 4; t++) {
            due("lies", x.lies(t), lies[t]);
        }
        due("trust", x.trust(3, true), 1);
        int[] after = {0, 2, 0, 0};
        for (int t = 0; t < 4; t++) {
            due("lies", x.lies(t), after[t]);
        }
        due("trust", x.trust(1, true), 1);
        due("none does", x.lies(0), NONE);
        due("thing ahead of none", x.lies(4), UNKNOWN);
        due("thing", x.lies(-1), UNKNOWN);
        due("turn", x.turn(1, false), 1);
        due("nobody lies", x.lies(1), 0);
        HeardPlaces y = lyingTwice();
        int[] both = {0, 0, 2, 2};
        for (int t = 0; t < 4; t++) {
            due("lies", y.lies(t), both[t]);
        }
        due("trust", y.trust(0, false), 1);
        due("trust", y.trust(1, false), 1);
        int[] ends = {1, 1, 0, 0};
        for (int t = 0; t < 4; t++) {
            due("lies", y.lies(t), ends[t]);
        }
    }

    private static void promise40() {
        HeardPlaces x = fieldOf(3, 2);
        due("keep", x.keep(0), 1);
        due("wall", x.wall(0, true), 1);
        due("keep", x.keep(1), 1);
        due("wall", x.wall(1, true), 1);
        due("back", x.back(0), 1);
        due("many", x.many(0), 6);
        due("back", x.back(1), 1);
        due("many", x.many(0), 5);
        due("again", x.keep(0), 1);
        due("wall", x.wall(2, true), 1);
        due("back", x.back(0), 1);
        due("many", x.many(0), 5);
        due("image", x.keep(2), UNKNOWN);
        due("image", x.keep(-1), UNKNOWN);
    }

    private static void promise41() {
        HeardPlaces x = fieldOf(4, 3);
        due("wall", x.wall(at(1, 0), true), 1);
        due("anchor", x.thing(1, 0), 0);
        due("mover", x.mover(2, 0), 0);
        due("measure", x.measure(4, 0, 1, 1, 1), 1);
        due("turn", x.turn(0, false), 1);
        due("box", x.box(2, 0, 0, 0, 2), 3);
        due("trust", x.trust(0, true), 1);
        due("put", x.put(1, 8), NONE);
        due("alone", x.alone(true), 1);
        due("hold", x.hold(0, 0, 2), 1);
        due("sheet", x.sheet(0, 0, 3), 1);
        due("tell", x.tell(0, 0), 6);
        due("placings", x.placings(0), 1);
        due("keep", x.keep(1), 1);
        long kept = x.cells(1);
        due("cells", kept, 1L << at(0, 1));
        due("field", x.field(8, 8), 64);
        due("thing", x.thing(0, 0), 0);
        due("hold", x.hold(1, 0, 0), 1);
        due("lose", x.lose(0), 1);
        due("placings", x.placings(0), 64);
        due("thing", x.thing(0, 0), 1);
        due("mover", x.mover(5, 98), 0);
        due("mover", x.mover(3, 98), 1);
        due("nothing kept", x.back(0), STATE);
        due("image", x.back(2), UNKNOWN);
        due("image", x.back(-1), UNKNOWN);
        due("many", x.many(0), 64);
        for (int times = 0; times < 2; times++) {
            due("back", x.back(1), 1);
            due("free", x.many(0), 11);
            due("field", x.hops(0, 4, 1), UNKNOWN);
            due("walls", x.wall(at(1, 0), true), 0);
            due("things", x.many(1), 3);
            due("kind", x.about(0, 0), 1);
            due("box", x.about(2, 1), 3);
            due("trust", x.about(0, 6), 1);
            due("map", x.about(1, 5), 8);
            due("mover", x.about(2, 7), 0);
            due("tick", x.about(2, 8), 1);
            due("tick", x.tick(0, 0), 1);
            due("tick", x.tick(0, 2), UNKNOWN);
            due("ways", x.ways(0), 1);
            due("measures", x.many(2), 2);
            due("off", x.told(0, 5), 0);
            due("its thing", x.told(0, 1), 1);
            due("kind", x.told(1, 0), 4);
            due("cells", x.cells(1), kept);
            due("alone", x.many(9), 1);
            due("what came later goes", x.thing(0, 0), 3);
            due("measure", x.measure(1, 3, 0, 0, 0), 2);
            due("mover", x.mover(2, 0), 1);
            due("put", x.put(3, 0), NONE);
            due("put", x.put(1, 0), 8);
            due("turn", x.turn(0, true), 1);
            due("wall", x.wall(at(0, 1), true), 1);
            due("trust", x.trust(0, false), 1);
            due("box", x.box(2, 0, 0, 7, 7), 10);
            due("alone", x.alone(false), 1);
            due("shut in", x.cells(1), 0);
            due("quarrel", x.quarrel(), 1);
            due("liars", x.liars(0), 1);
            due("ways", x.ways(0), 0);
        }
        due("holds are not of the desk", x.as(1, 0), 0);
        due("nor sheets", x.lose(0), 0);
        due("nor trace", x.trace(), 1);
        due("nor trials", x.trials(), 64);
    }

    private static void promise42() {
        HeardPlaces x = fieldOf(3, 1);
        due("thing", x.thing(0, 0), 0);
        due("anchor", x.thing(1, 2), 1);
        due("measure", x.measure(1, 0, 1, 0, 4), 0);
        due("thing", x.hold(0, 0, 1), 1);
        due("measure", x.hold(7, 1, 0), 1);
        due("many", x.many(8), 2);
        due("as", x.as(0, 1), 1);
        due("as", x.as(7, 5), 0);
        due("anew", x.hold(0, 1, 0), 1);
        due("as a thing no more", x.as(0, 0), CAST);
        due("as", x.as(0, 3), 0);
        due("anew", x.hold(7, 0, 0), 1);
        due("as a measure no more", x.as(7, 3), CAST);
        due("many", x.many(8), 2);
        due("hold", x.hold(8, 2, 9), UNKNOWN);
        due("hold", x.hold(-1, 0, 0), UNKNOWN);
        due("what ahead of none such", x.hold(0, 2, 9), OUTSIDE);
        due("what", x.hold(0, -1, 0), OUTSIDE);
        due("thing", x.hold(0, 0, 2), UNKNOWN);
        due("thing", x.hold(0, 0, -1), UNKNOWN);
        due("measure", x.hold(0, 1, 1), UNKNOWN);
        due("nothing changed", x.as(0, 3), 0);
        due("keep", x.keep(0), 1);
        due("beacon", x.thing(2, 1), 2);
        due("hold", x.hold(1, 0, 2), 1);
        due("measure", x.measure(2, 2, 0, 0, 7), 1);
        due("hold", x.hold(2, 1, 1), 1);
        due("back", x.back(0), 1);
        due("what was taken off stays", x.as(1, 2), 2);
        due("as it was", x.tell(1, 0), 2 * 6 + 1);
        due("as it was", x.tell(2, 1), 2 + 7 - 1000 + 2);
        due("another beacon", x.thing(2, 0), 2);
        due("as it was", x.tell(1, 0), 2 * 6 + 1);
        due("field", x.field(1, 1), 1);
        due("what was taken off stays", x.as(2, 6), 1);
        due("as it was", x.tell(1, 0), 2 * 6 + 1);
    }

    private static void promise43() {
        HeardPlaces x = fieldOf(3, 1);
        due("thing", x.thing(0, 0), 0);
        due("thing", x.thing(0, 0), 1);
        due("measure", x.measure(1, 0, 1, 0, 4), 0);
        due("nothing", x.loose(0), 0);
        due("hold", x.hold(0, 0, 1), 1);
        due("hold", x.hold(1, 1, 0), 1);
        due("loose", x.loose(0), 1);
        due("loose", x.loose(0), 0);
        due("nothing", x.as(0, 0), NULL);
        due("the other stays", x.many(8), 1);
        due("loose", x.loose(1), 1);
        due("many", x.many(8), 0);
        due("hold", x.loose(8), UNKNOWN);
        due("hold", x.loose(-1), UNKNOWN);
    }

    /** HOLDS 0 .. 2: a THING, an ANCHOR, a BEACON; 3 .. 7: a MEASURE of each kind. */
    private static HeardPlaces holding() {
        HeardPlaces x = new HeardPlaces();
        due("beacon", x.thing(2, 50), 0);
        due("thing", x.thing(0, 0), 1);
        due("anchor", x.thing(1, 40), 2);
        int[] things = {1, 2, 0};
        for (int k = 0; k < 3; k++) {
            due("hold", x.hold(k, 0, things[k]), 1);
        }
        int[][] measures = {{4, 1, 2, 3, 9}, {3, 1, 2, 3, 9}, {2, 1, 2, 3, 9}, {1, 1, 2, 3, 9}, {0, 1, 2, 3, 9}};
        for (int m = 0; m < 5; m++) {
            int[] row = measures[m];
            due("measure", x.measure(row[0], row[1], row[2], row[3], row[4]), m);
            due("hold", x.hold(7 - m, 1, m), 1);
        }
        return x;
    }

    private static void promise44() {
        HeardPlaces x = holding();
        int[][] may = {{0}, {0, 1}, {0, 1, 2}, {3, 4}, {3, 4, 5}, {3, 4, 5, 6}, {3, 7}, {3, 4, 5, 8}};
        int[] numbers = {1, 2, 0, 4, 3, 2, 1, 0};
        for (int k = 0; k < 8; k++) {
            for (int kind = 0; kind < 9; kind++) {
                boolean is = false;
                for (int one : may[k]) {
                    is |= one == kind;
                }
                due("as", x.as(k, kind), is ? numbers[k] : CAST);
                due("fault", x.fault(), is ? 0 : 2);
            }
        }
        due("loose", x.loose(3), 1);
        for (int kind = 0; kind < 9; kind++) {
            faultDue(x, "nothing", x.as(3, kind), 1);
        }
        due("kind", x.as(3, 9), OUTSIDE);
        due("fault", x.fault(), 0);
        due("kind", x.as(0, -1), OUTSIDE);
        due("hold ahead of kind", x.as(8, 9), UNKNOWN);
        due("hold", x.as(-1, 0), UNKNOWN);
        due("kind", x.as(3, 0), NULL);
        due("hold", x.as(-1, 0), UNKNOWN);
        due("fault", x.fault(), 0);
    }

    private static int traceOf(int before, int... bodies) {
        int trace = before;
        for (int body : bodies) {
            trace = 31 * trace + body;
        }
        return trace;
    }

    private static void promise45() {
        HeardPlaces x = holding();
        int[] tells = {3, 6 + 40, 50, 3 + 12, 3 + 9 - 1000, 3 + 9 - 1000 + 3, 3, 2 * (3 + 12)};
        int[][] bodies = {{1}, {2, 1}, {3, 2, 1, 1}, {5, 4}, {6, 5, 4}, {7, 6, 5, 4, 4}, {4}, {8, 5, 4}};
        int trace = 0;
        for (int k = 0; k < 8; k++) {
            due("tell", x.tell(k, k < 3 ? 0 : 1), tells[k]);
            due("fault", x.fault(), 0);
            trace = traceOf(trace, bodies[k]);
            due("trace of " + k, x.trace(), trace);
            faultDue(x, "another kind", x.tell(k, k < 3 ? 1 : 0), 2);
            due("what", x.tell(k, 2), OUTSIDE);
            due("fault", x.fault(), 0);
            due("trace of " + k, x.trace(), trace);
        }
        due("loose", x.loose(4), 1);
        due("beacon", x.thing(2, 50), 3);
        due("hold", x.hold(0, 0, 3), 1);
        due("tell", x.tell(0, 0), 9 + 50 + 9);
        due("trace", x.trace(), traceOf(trace, 3, 2, 1, 1));
        trace = x.trace();
        faultDue(x, "nothing", x.tell(4, 0), 1);
        due("what ahead of nothing", x.tell(4, -1), OUTSIDE);
        due("hold ahead of what", x.tell(8, 2), UNKNOWN);
        due("hold", x.tell(-1, 0), UNKNOWN);
        due("fault", x.fault(), 0);
        due("trace", x.trace(), trace);
    }

    private static void promise46() {
        HeardPlaces x = holding();
        int[] greets = {1, 2, 500, 10, 7, 7, 13, 7 + 14};
        int[][] bodies = {{9}, {9}, {10, 9}, {11}, {12}, {12}, {11}, {13, 12, 11}};
        int trace = 0;
        for (int k = 0; k < 8; k++) {
            due("greet", x.greet(k, k < 3 ? 0 : 1), greets[k]);
            due("fault", x.fault(), 0);
            trace = traceOf(trace, bodies[k]);
            due("trace of " + k, x.trace(), trace);
            faultDue(x, "another kind", x.greet(k, k < 3 ? 1 : 0), 2);
            due("what", x.greet(k, 2), OUTSIDE);
            due("fault", x.fault(), 0);
            due("trace of " + k, x.trace(), trace);
        }
        due("loose", x.loose(4), 1);
        due("beacon", x.thing(2, 50), 3);
        due("hold", x.hold(0, 0, 3), 1);
        due("greet", x.greet(0, 0), 503);
        due("trace", x.trace(), traceOf(trace, 10, 9));
        trace = x.trace();
        faultDue(x, "nothing", x.greet(4, 1), 1);
        due("what ahead of nothing", x.greet(4, -1), OUTSIDE);
        due("hold ahead of what", x.greet(8, 2), UNKNOWN);
        due("hold", x.greet(-1, 0), UNKNOWN);
        due("fault", x.fault(), 0);
        due("trace", x.trace(), trace);
    }

    private static void promise47() {
        HeardPlaces x = new HeardPlaces();
        for (int lane = 0; lane < 4; lane++) {
            due("sheet", faulted(x).sheet(lane, lane, 64), 1);
            due("fault", x.fault(), 0);
            due("0 at first", x.cell(lane, 63, lane), 0);
        }
        due("lay", x.lay(0, 5, 9), 1);
        due("anew", x.sheet(0, 0, 64), 1);
        due("0 at first", x.cell(0, 5, 0), 0);
        due("lay", x.lay(0, 5, 9), 1);
        due("shorter, of another lane", x.sheet(0, 3, 6), 1);
        due("0 at first", x.cell(0, 5, 3), 0);
        due("beyond", x.cell(0, 6, 3), LOST);
        due("none", x.sheet(1, 2, 0), 1);
        due("an empty row is a row", x.lose(1), 1);
        due("sheet", x.sheet(4, 4, -1), UNKNOWN);
        due("sheet", x.sheet(-1, 0, 0), UNKNOWN);
        due("lane ahead of size", x.sheet(0, 4, -1), OUTSIDE);
        due("lane", x.sheet(0, -1, 1), OUTSIDE);
        due("above", faulted(x).sheet(0, 0, 65), OUTSIDE);
        due("fault", x.fault(), 0);
        due("above", x.sheet(0, 0, Integer.MAX_VALUE), OUTSIDE);
        faultDue(x, "size", x.sheet(0, 0, -1), 4);
        faultDue(x, "size", x.sheet(0, 0, Integer.MIN_VALUE), 4);
        due("nothing changed", x.cell(0, 5, 3), 0);
    }

    private static void promise48() {
        HeardPlaces x = new HeardPlaces();
        due("nothing", x.lose(3), 0);
        due("sheet", x.sheet(3, 2, 1), 1);
        due("lose", x.lose(3), 1);
        due("lose", x.lose(3), 0);
        faultDue(x, "nothing", x.lay(3, 0, 0), 1);
        due("sheet", x.lose(4), UNKNOWN);
        due("sheet", x.lose(-1), UNKNOWN);
        due("names no fault", x.fault(), 1);
    }

    private static void promise49() {
        HeardPlaces x = new HeardPlaces();
        long[] values = {0, 1, -1, 127, 128, -129, 32767, 32768, 65535, 1L << 31, (1L << 31) - 1, 1L << 40, LOST};
        for (int lane = 0; lane < 4; lane++) {
            due("sheet", x.sheet(lane, lane, 3), 1);
            for (long v : values) {
                due("lay", faulted(x).lay(lane, 2, v), 1);
                due("fault", x.fault(), 0);
                int off = 64 - (8 << lane);
                due("cut to lane " + lane, x.cell(lane, 2, lane), v << off >> off);
            }
            due("no other cell", x.cell(lane, 1, lane), 0);
        }
        faultDue(x, "beyond", x.lay(1, 3, 0), 3);
        faultDue(x, "below", x.lay(1, -1, 0), 3);
        faultDue(x, "far", x.lay(1, Integer.MAX_VALUE, 0), 3);
        due("lose", x.lose(1), 1);
        faultDue(x, "nothing", x.lay(1, -1, 0), 1);
        due("sheet", x.lay(4, 0, 0), UNKNOWN);
        due("sheet", x.lay(-1, 0, 0), UNKNOWN);
        due("fault", x.fault(), 0);
    }

    private static void lostDue(HeardPlaces x, String call, long got, int fault) {
        due(call, got, LOST);
        due("fault() after " + call, x.fault(), fault);
    }

    private static void promise50() {
        HeardPlaces x = new HeardPlaces();
        lay(x, 2, 1, 2, 7, -8);
        due("cell", faulted(x).cell(2, 0, 1), 7);
        due("fault", x.fault(), 0);
        due("cell", x.cell(2, 1, 1), -8);
        lostDue(x, "beyond", x.cell(2, 2, 1), 3);
        lostDue(x, "below", x.cell(2, -1, 1), 3);
        lostDue(x, "far", x.cell(2, Integer.MIN_VALUE, 1), 3);
        lostDue(x, "another lane", x.cell(2, -1, 0), 2);
        lostDue(x, "another lane", x.cell(2, 0, 2), 2);
        lostDue(x, "nothing", x.cell(1, -1, 1), 1);
        lostDue(faulted(x), "lane", x.cell(2, -1, 4), 0);
        lostDue(faulted(x), "lane", x.cell(1, 0, -1), 0);
        lostDue(faulted(x), "sheet", x.cell(4, 0, 0), 0);
        lostDue(faulted(x), "sheet", x.cell(-1, 0, 0), 0);
        lay(x, 0, 3, 1, LOST);
        lostDue(x, "that very number", x.cell(0, 0, 3), 0);
    }

    private static void promise51() {
        HeardPlaces x = new HeardPlaces();
        lay(x, 0, 2, 5, 1, 2, 3, 4, 5);
        lay(x, 1, 2, 4, 9, 9, 9, 9);
        due("copy", faulted(x).copy(0, 1, 1, 0, 3), 3);
        due("fault", x.fault(), 0);
        long[] copied = {2, 3, 4, 9};
        for (int i = 0; i < 4; i++) {
            due("cell", x.cell(1, i, 2), copied[i]);
        }
        due("to itself, on", x.copy(0, 0, 0, 1, 4), 4);
        long[] on = {1, 1, 2, 3, 4};
        for (int i = 0; i < 5; i++) {
            due("cell", x.cell(0, i, 2), on[i]);
        }
        due("to itself, back", x.copy(0, 1, 0, 0, 4), 4);
        long[] back = {1, 2, 3, 4, 4};
        for (int i = 0; i < 5; i++) {
            due("cell", x.cell(0, i, 2), back[i]);
        }
        due("none", x.copy(0, 5, 1, 4, 0), 0);
        faultDue(x, "i below", x.copy(0, -1, 1, 0, 1), 3);
        faultDue(x, "j below", x.copy(0, 0, 1, -1, 1), 3);
        faultDue(x, "n below", x.copy(0, 0, 1, 0, -1), 3);
        faultDue(x, "i beyond", x.copy(0, 4, 1, 0, 2), 3);
        faultDue(x, "j beyond", x.copy(0, 0, 1, 3, 2), 3);
        faultDue(x, "none beyond", x.copy(0, 6, 1, 0, 0), 3);
        faultDue(x, "none beyond", x.copy(0, 0, 1, 5, 0), 3);
        faultDue(x, "far beyond", x.copy(0, 1, 1, 1, Integer.MAX_VALUE), 3);
        faultDue(x, "far beyond", x.copy(0, Integer.MAX_VALUE, 1, Integer.MAX_VALUE, 1), 3);
        due("sheet", x.sheet(2, 3, 9), 1);
        faultDue(x, "unlike lanes", x.copy(0, -1, 2, 0, 1), 2);
        faultDue(x, "the first is nothing", x.copy(3, -1, 2, 0, 1), 1);
        faultDue(x, "the other is nothing", x.copy(2, -1, 3, 0, 1), 1);
        due("sheet", x.copy(4, 0, 0, 0, 0), UNKNOWN);
        due("fault", x.fault(), 0);
        due("sheet", faulted(x).copy(0, 0, -1, 0, 0), UNKNOWN);
        due("fault", x.fault(), 0);
        due("sheet", x.copy(3, 0, 4, 0, 0), UNKNOWN);
        for (int i = 0; i < 4; i++) {
            due("nothing changed", x.cell(1, i, 2), copied[i]);
        }
    }

    private static void promise52() {
        HeardPlaces x = holding();
        due("ahead of any", x.trace(), 0);
        due("as leaves nothing", x.as(2, 0), 0);
        due("trace", x.trace(), 0);
        int trace = 0;
        for (int i = 0; i < 20; i++) {
            due("tell", x.tell(5, 1), 3 + 9 - 1000 + 3);
            trace = traceOf(trace, 7, 6, 5, 4, 4);
            due("it wraps", x.trace(), trace);
        }
        due("field", x.field(1, 1), 1);
        due("it stays", x.trace(), trace);
    }

    private static void promise53() {
        HeardPlaces x = holding();
        due("ahead of any", x.fault(), 0);
        due("as", x.as(0, 8), CAST);
        due("fault", x.fault(), 2);
        due("calls that name none leave it", x.wall(-1, true), UNKNOWN);
        due("hold", x.hold(9, 0, 0), UNKNOWN);
        due("loose", x.loose(0), 1);
        due("field", x.field(2, 2), 4);
        due("keep", x.keep(0), 1);
        due("back", x.back(0), 1);
        due("many", x.many(0), 4);
        due("lose", x.lose(0), 0);
        due("measure", x.measure(0, 0, 0, 0, 0), UNKNOWN);
        due("trace", x.trace(), 0);
        due("fault", x.fault(), 2);
        due("fault is no such call itself", x.fault(), 2);
        due("one that comes to none", x.as(1, 0), 2);
        due("fault", x.fault(), 0);
        due("null", x.lay(0, 0, 0), NULL);
        due("fault", x.fault(), 1);
        due("size", x.sheet(0, 0, -5), SIZE);
        due("fault", x.fault(), 4);
        due("sheet", x.sheet(0, 0, 1), 1);
        due("fault", x.fault(), 0);
        due("index", x.lay(0, 1, 0), INDEX);
        due("fault", x.fault(), 3);
        due("refused", x.lay(9, 1, 0), UNKNOWN);
        due("fault", x.fault(), 0);
    }

    private static void promise54() {
        HeardPlaces x = fieldOf(4, 2);
        due("wall", x.wall(0, true), 1);
        due("anchor", x.thing(1, 1), 0);
        due("thing", x.thing(0, 0), 1);
        due("mover", x.mover(2, 98), 0);
        due("measure", x.measure(1, 0, 1, 0, 1), 1);
        due("turn", x.turn(0, false), 1);
        due("put", x.put(0, 0), NONE);
        due("put", x.put(2, 0), NONE);
        due("put", x.put(3, 0), NONE);
        due("hold", x.hold(7, 0, 0), 1);
        due("hold", x.hold(0, 1, 0), 1);
        due("alone", x.alone(true), 1);
        due("box", x.box(2, 0, 0, 1, 0), 1);
        int[] many = {7, 4, 2, 1, 1, 2, 1 + 3 + 1 + 7, 3, 2, 1};
        for (int what = 0; what < 10; what++) {
            due("many(" + what + ")", x.many(what), many[what]);
        }
        due("what", x.many(10), OUTSIDE);
        due("what", x.many(-1), OUTSIDE);
    }

    public static void main(String[] arguments) {
        Runnable[] all = {PromisesTest::promise1, PromisesTest::promise2, PromisesTest::promise3,
            PromisesTest::promise4, PromisesTest::promise5, PromisesTest::promise6, PromisesTest::promise7,
            PromisesTest::promise8, PromisesTest::promise9, PromisesTest::promise10, PromisesTest::promise11,
            PromisesTest::promise12, PromisesTest::promise13, PromisesTest::promise14, PromisesTest::promise15,
            PromisesTest::promise16, PromisesTest::promise17, PromisesTest::promise18, PromisesTest::promise19,
            PromisesTest::promise20, PromisesTest::promise21, PromisesTest::promise22, PromisesTest::promise23,
            PromisesTest::promise24, PromisesTest::promise25, PromisesTest::promise26, PromisesTest::promise27,
            PromisesTest::promise28, PromisesTest::promise29, PromisesTest::promise30, PromisesTest::promise31,
            PromisesTest::promise32, PromisesTest::promise33, PromisesTest::promise34, PromisesTest::promise35,
            PromisesTest::promise36, PromisesTest::promise37, PromisesTest::promise38, PromisesTest::promise39,
            PromisesTest::promise40, PromisesTest::promise41, PromisesTest::promise42, PromisesTest::promise43,
            PromisesTest::promise44, PromisesTest::promise45, PromisesTest::promise46, PromisesTest::promise47,
            PromisesTest::promise48, PromisesTest::promise49, PromisesTest::promise50, PromisesTest::promise51,
            PromisesTest::promise52, PromisesTest::promise53, PromisesTest::promise54};
        for (promise = 1; promise <= all.length; promise++) {
            all[promise - 1].run();
        }
        System.out.println(wrong == 0 ? all.length + " promises, " + answers + " answers are as due"
            : wrong + " answers are not as due");
        System.exit(wrong == 0 ? 0 : 1);
    }
}
