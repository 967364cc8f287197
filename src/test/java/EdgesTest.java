import java.lang.reflect.Method;
import java.lang.reflect.Modifier;
import java.nio.file.Files;
import java.nio.file.Path;
import java.util.Arrays;
import java.util.Comparator;

/**
 * Each sentence of ../shared/DOC.md that names a boundary case: the last value that is taken and the first that isn't,
 * nothing there and everything full. Every test begins with the sentence that it holds the class to.
 */
public final class EdgesTest {
    private static final int UNKNOWN = -1, OUTSIDE = -2, STATE = -3, FULL = -4, SPENT = -6, NONE = -9;
    private static final int NULL = -11, CAST = -12, INDEX = -13, SIZE = -14;
    private static final long LOST = Long.MIN_VALUE;
    private static final int MIN = Integer.MIN_VALUE, MAX = Integer.MAX_VALUE;

    private static String document;
    private static String sentence;
    private static int wrong = 0;
    private static int sentences = 0;
    private static int answers = 0;

    private static void told(String words) {
        sentence = words;
        sentences++;
        if (!document.contains(words)) {
            wrong++;
            System.out.println("not in the document: " + words);
        }
    }

    private static void due(String what, long got, long want) {
        answers++;
        if (got != want) {
            wrong++;
            System.out.println("'" + sentence + "': " + what + " is " + got + ", due is " + want);
        }
    }

    private static void allDue(String what, long[] got, long... want) {
        for (int i = 0; i < want.length; i++) {
            due(what + " " + i, got[i], want[i]);
        }
    }

    private static int at(int x, int y) {
        return 8 * y + x;
    }

    private static int square(int cell, int other) {
        int dx = other % 8 - cell % 8;
        int dy = other / 8 - cell / 8;
        return dx * dx + dy * dy;
    }

    private static HeardPlaces fieldOf(int w, int h) {
        HeardPlaces x = new HeardPlaces();
        x.field(w, h);
        return x;
    }

    /** A row of so many CELLS with so many THINGS of kind 0. */
    private static HeardPlaces rowOf(int w, int things) {
        HeardPlaces x = fieldOf(w, 1);
        addThings(x, things);
        return x;
    }

    private static void addThings(HeardPlaces x, int things) {
        for (int t = 0; t < things; t++) {
            x.thing(0, 0);
        }
    }

    /** An ANCHOR 0 on a CELL of a whole FIELD, and a THING 1. */
    private static HeardPlaces anchored(int cell) {
        HeardPlaces x = new HeardPlaces();
        x.thing(1, cell);
        x.thing(0, 0);
        return x;
    }

    private static void lay(HeardPlaces x, int k, int lane, long... values) {
        due("sheet", x.sheet(k, lane, values.length), 1);
        for (int i = 0; i < values.length; i++) {
            due("lay", x.lay(k, i, values[i]), 1);
        }
    }

    // ---- Terms

    private static void lastOfAllCalls() {
        told("An object is used for at most 512 calls after it has been made");
        HeardPlaces x = new HeardPlaces();
        int calls = 0;
        for (int round = 0; round < 17; round++) {
            x.field(8, 8);
            x.keep(round & 1);
            for (int m = 0; m < 3; m++) {
                due("mover", x.mover(8, 98), m);
            }
            for (int i = 0; i < 24; i++) {
                due("measure", x.measure(1, i, (i + 8) % 24, 0, 98), 21 + i);
            }
            calls += 29;
        }
        for (; calls < 509; calls++) {
            due("alone", x.alone(calls % 2 == 1), 1);
        }
        due("call 510", x.quarrel(), NONE);
        due("call 511", x.placings(0), SPENT);
        due("call 512", x.ways(2), 1L << 48);
    }

    private static void faultsAnswer() {
        told("it answers -10 less it (LOST, where a long is answered, as for refusals)");
        HeardPlaces x = new HeardPlaces();
        due("nothing", x.lay(0, 0, 0), -10 - 1);
        lay(x, 0, 0, 5);
        due("another lane", x.plan(0, 1, 0), -10 - 2);
        due("no such cell", x.lay(0, 1, 0), -10 - 3);
        due("a length below 0", x.sheet(0, 0, -1), -10 - 4);
        due("a long, and nothing", x.cell(1, 0, 0), LOST);
        due("a long, and another lane", x.cell(0, 0, 1), LOST);
        due("a long, and no such cell", x.cell(0, 1, 0), LOST);
        due("a long, refused", x.cell(4, 0, 0), LOST);
        due("a long, refused", x.ways(0), LOST);
        told("NONE is -9.");
        due("NONE", HeardPlaces.NONE, -9);
        due("none", x.quarrel(), -9);
    }

    private static void faultsAreTheirs() {
        told("1 NULL (there is nothing), 2 CAST (it is of another LANE, kind), 3 INDEX, 4 SIZE (a length below 0)");
        HeardPlaces x = new HeardPlaces();
        x.thing(1, 0);
        x.hold(0, 0, 0);
        x.sheet(0, 1, 2);
        int[][] calls = {{x.as(1, 0), x.fault()}, {x.tell(1, 1), x.fault()}, {x.greet(1, 0), x.fault()},
            {x.lay(1, 0, 0), x.fault()}, {x.copy(1, 0, 0, 0, 0), x.fault()}, {x.copy(0, 0, 1, 0, 0), x.fault()},
            {x.plan(1, 0, 0), x.fault()}, {x.measures(1, 0, 0, 0), x.fault()}};
        for (int[] call : calls) {
            due("nothing", call[0], NULL);
            due("fault()", call[1], 1);
        }
        x.sheet(2, 2, 2);
        calls = new int[][] {{x.as(0, 2), x.fault()}, {x.as(0, 3), x.fault()}, {x.tell(0, 1), x.fault()},
            {x.greet(0, 1), x.fault()}, {x.copy(0, 0, 2, 0, 0), x.fault()}, {x.plan(0, 0, 0), x.fault()},
            {x.plan(0, 2, 0), x.fault()}, {x.measures(0, 2, 0, 0), x.fault()}};
        for (int[] call : calls) {
            due("another", call[0], CAST);
            due("fault()", call[1], 2);
        }
        calls = new int[][] {{x.plan(0, 1, 0), x.fault()}, {x.lay(0, 2, 0), x.fault()}, {x.lay(0, -1, 0), x.fault()},
            {x.copy(0, 0, 0, 2, 1), x.fault()}, {x.copy(0, 0, 0, 0, -1), x.fault()}};
        for (int[] call : calls) {
            due("no such", call[0], INDEX);
            due("fault()", call[1], 3);
        }
        calls = new int[][] {{x.sheet(0, 0, -1), x.fault()}, {x.sheet(3, 0, MIN), x.fault()},
            {x.measures(0, 1, 0, -1), x.fault()}, {x.measures(0, 1, 0, MIN), x.fault()}};
        for (int[] call : calls) {
            due("below 0", call[0], SIZE);
            due("fault()", call[1], 4);
        }
    }

    // ---- 1 THE FIELD

    private static void fieldsOfEverySize() {
        told("w by h CELLS (1 .. 8 each; 8 by 8 at first), numbered 8 y + x; each FREE (at first) or a WALL.");
        for (int w = 1; w <= 8; w++) {
            for (int h = 1; h <= 8; h++) {
                HeardPlaces x = new HeardPlaces();
                due("field", x.field(w, h), w * h);
                due("how many are FREE", x.many(0), w * h);
                for (int c = -1; c <= 64; c++) {
                    boolean is = c >= 0 && c < 64 && c % 8 < w && c / 8 < h;
                    due("cell " + c + " of " + w + " by " + h, x.wall(c, false), is ? 0 : UNKNOWN);
                }
            }
        }
        int[] beyond = {MIN, -8, -1, 0, 9, 16, MAX};
        HeardPlaces x = fieldOf(3, 5);
        for (int size : beyond) {
            due("w " + size, x.field(size, 1), OUTSIDE);
            due("w " + size, x.field(size, 8), OUTSIDE);
            due("h " + size, x.field(1, size), OUTSIDE);
            due("h " + size, x.field(8, size), OUTSIDE);
        }
        due("it is as it was", x.many(0), 15);
        HeardPlaces first = new HeardPlaces();
        for (int c = 0; c < 64; c++) {
            due("a cell at first", first.wall(c, false), 0);
            due("a wall then", first.wall(c, true), 1);
            due("FREE are left", first.many(0), 63 - c);
        }
        due("no FREE CELL for an ANCHOR", first.thing(1, 0), STATE);
        due("a THING without any TOLD CELL", first.thing(0, 0), 0);
        due("TOLD", first.about(0, 1), 0);
    }

    private static void wholePlanAtFirst() {
        told("8 by 8 at first");
        HeardPlaces x = new HeardPlaces();
        x.sheet(0, 0, 64);
        x.lay(0, 0, 1);
        x.lay(0, 63, -1);
        x.sheet(1, 0, 63);
        due("63 numbers", x.plan(1, 0, 0), INDEX);
        due("64 numbers", x.plan(0, 0, 0), 62);
        due("the first", x.wall(0, true), 0);
        due("the last", x.wall(63, true), 0);
        due("from 1 on", x.plan(0, 0, 1), INDEX);
    }

    private static void distances() {
        told("THE DISTANCE of two CELLS is the square of steps: dx dx + dy dy.");
        for (int cell : new int[] {0, 7, 56, 63, 27, 36, 12}) {
            for (int half = 0; half < 2; half++) {
                HeardPlaces x = anchored(cell);
                for (int m = 0; m < 50 && half * 50 + m <= 98; m++) {
                    int d = half * 50 + m;
                    long due = 0;
                    for (int c = 0; c < 64; c++) {
                        due |= square(cell, c) == d ? 1L << c : 0;
                    }
                    due("measure", x.measure(0, m % 2, 1 - m % 2, d, d), m);
                    due("at " + d + " from " + cell, x.cells(1), due);
                    x.turn(m, false);
                }
            }
        }
    }

    /** Rows 0, 2, 4 and 6 lead to and fro, joined by one CELL each: 35 steps from the first corner to (0, 7). */
    private static HeardPlaces winding() {
        HeardPlaces x = new HeardPlaces();
        for (int y = 1; y < 8; y += 2) {
            for (int c = 0; c < 8; c++) {
                if (c != (y % 4 == 1 ? 7 : 0)) {
                    x.wall(at(c, y), true);
                }
            }
        }
        return x;
    }

    private static void hops() {
        told("HOPS of two FREE CELLS by a reach r: the least number of steps from the one to the other, each from a FREE CELL"
            + " to a FREE CELL at DISTANCE r at most (0 for a CELL and itself; none: -1).");
        told("HOPS by a reach. UNKNOWN: a cell; OUTSIDE: r is not 0 .. 98; STATE: one is a WALL.");
        HeardPlaces x = new HeardPlaces();
        for (int r : new int[] {0, 1, 97, 98}) {
            for (int c = 0; c < 64; c += 9) {
                due("itself", x.hops(c, c, r), 0);
            }
            due("beside", x.hops(9, 10, r), r == 0 ? -1 : 1);
        }
        int[][] straight = {{1, 7}, {3, 7}, {4, 4}, {8, 4}, {9, 3}, {15, 3}, {16, 2}, {48, 2}, {49, 1}, {98, 1}};
        for (int[] pair : straight) {
            due("along by " + pair[0], x.hops(0, 7, pair[0]), pair[1]);
            due("and back", x.hops(7, 0, pair[0]), pair[1]);
            due("down by " + pair[0], x.hops(0, 56, pair[0]), pair[1]);
        }
        int[][] aslant = {{1, 14}, {2, 7}, {4, 7}, {5, 5}, {7, 5}, {8, 4}, {97, 2}, {98, 1}};
        for (int[] pair : aslant) {
            due("aslant by " + pair[0], x.hops(0, 63, pair[0]), pair[1]);
        }
        due("r below", x.hops(0, 0, -1), OUTSIDE);
        due("r beyond", x.hops(0, 0, 99), OUTSIDE);
        HeardPlaces y = winding();
        due("the longest way", y.hops(0, at(0, 7), 1), 35);
        due("and back", y.hops(at(0, 7), 0, 1), 35);
        due("corners cut", y.hops(0, at(0, 7), 2), 28);
        due("over the walls", y.hops(0, at(0, 6), 4), 3);
        y.wall(at(7, 3), true);
        y.wall(at(0, 3), true);
        due("shut", y.hops(0, at(0, 4), 2), -1);
        due("still over the walls", y.hops(0, at(0, 4), 4), 2);
        due("from a wall", y.hops(at(0, 3), 0, 4), STATE);
        due("to a wall", y.hops(0, at(0, 3), 4), STATE);
    }

    private static void twentyFourThings() {
        told("THINGS, 24 ever, numbered as they come, of a kind: 0 THING; 1 ANCHOR, a THING of known CELL; 2 BEACON");
        HeardPlaces x = fieldOf(2, 2);
        for (int t = 0; t < 24; t++) {
            due("thing", x.thing(t % 3, 9), t);
            due("kind", x.about(t, 0), t % 3);
            due("how many", x.many(1), t + 1);
            if (t == 4) {
                x.keep(0);
            }
        }
        for (int kind = 0; kind < 3; kind++) {
            due("one more", x.thing(kind, 9), FULL);
        }
        due("a mover's things", x.mover(2, 0), FULL);
        due("how many", x.many(1), 24);
        due("the last", x.about(23, 0), 2);
        due("none after it", x.about(24, 0), UNKNOWN);
        x.back(0);
        due("as many as the IMAGE has", x.thing(1, 0), 5);
        x.field(1, 1);
        for (int t = 0; t < 24; t++) {
            due("from the first on again", x.thing(0, 0), t);
        }
        due("one more", x.thing(0, 0), FULL);
        due("kind -1", x.thing(-1, 0), OUTSIDE);
        due("kind 3", x.thing(3, 0), OUTSIDE);
    }

    private static void boxes() {
        told("TOLD CELLS of a THING: of an ANCHOR its own; else all FREE CELLS within its BOX (x1 .. x2, y1 .. y2; the whole"
            + " FIELD at first).");
        for (int size = 5; size <= 8; size += 3) {
            for (int x1 = 0; x1 < 8; x1++) {
                HeardPlaces x = fieldOf(size, 8);
                x.wall(at(3, 3), true);
                x.thing(0, 0);
                x.thing(1, at(4, 4));
                due("the whole at first", x.about(0, 1), size * 8 - 1);
                due("an ANCHOR's", x.cells(1), 1L << at(4, 4));
                for (int x2 = 0; x2 < 8; x2 += x2 < x1 - 1 ? x1 - 1 - x2 : 1) {
                    boxesFrom(x, size, x1, x2);
                }
            }
        }
    }

    private static void boxesFrom(HeardPlaces x, int size, int x1, int x2) {
        for (int y1 = 0; y1 < 8; y1 += 3) {
            for (int y2 = y1 - (y1 > 0 ? 1 : 0); y2 < 8; y2 += 2) {
                long due = 0;
                for (int c = 0; c < 64; c++) {
                    boolean in = c % 8 < size && c % 8 >= x1 && c % 8 <= x2 && c / 8 >= y1 && c / 8 <= y2;
                    due |= in && c != at(3, 3) ? 1L << c : 0;
                }
                boolean refused = x1 > x2 || y1 > y2;
                String name = "box " + x1 + ", " + y1 + ", " + x2 + ", " + y2;
                due(name, x.box(0, x1, y1, x2, y2), refused ? OUTSIDE : Long.bitCount(due));
                if (!refused) {
                    due("cells of " + name, x.cells(0), due);
                }
            }
        }
    }

    private static void boxesBeyond() {
        told("OUTSIDE: x1, y1, x2, y2 are not 0 .. 7, x1 is above x2, y1 above y2.");
        HeardPlaces x = new HeardPlaces();
        x.thing(0, 0);
        due("box", x.box(0, 2, 3, 4, 5), 9);
        int[][] refused = {{-1, 0, 0, 0}, {0, -1, 0, 0}, {0, 0, -1, 0}, {0, 0, 0, -1}, {8, 0, 8, 0}, {0, 8, 0, 8},
            {0, 0, 8, 0}, {0, 0, 0, 8}, {-1, -1, -1, -1}, {8, 8, 8, 8}, {1, 0, 0, 0}, {0, 1, 0, 0}, {7, 0, 6, 7},
            {0, 7, 7, 6}, {MIN, 0, 0, 0}, {0, 0, MAX, 0}, {0, MIN, 0, 0}, {0, 0, 0, MAX}};
        for (int[] b : refused) {
            due("box " + Arrays.toString(b), x.box(0, b[0], b[1], b[2], b[3]), OUTSIDE);
        }
        due("the BOX is as it was", x.about(0, 1), 9);
        due("its first CELL", x.about(0, 3), at(2, 3));
    }

    // ---- 2 MEASURES

    private static void sixtyMeasures() {
        told("60 at most, each numbered by how many there are ahead of it (the first one 0)");
        HeardPlaces x = rowOf(2, 2);
        for (int m = 0; m < 60; m++) {
            due("measure", x.measure(m % 5, m % 2, 1 - m % 2, m % 5 == 3 ? 3 : 0, 98), m);
            due("turn", x.turn(m, false), 1);
            due("how many", x.many(2), m + 1);
        }
        for (int kind = 0; kind < 5; kind++) {
            due("one more, all of them OFF", x.measure(kind, 0, 1, 0, 98), FULL);
        }
        due("how many", x.many(2), 60);
        due("the last", x.told(59, 1), 1);
        due("none after it", x.told(60, 1), UNKNOWN);
        due("a mover's", x.mover(2, 0), FULL);
        due("nor its THINGS", x.many(1), 2);
        lay(x, 0, 3, 1, 0, 1, 0, 0);
        due("by a SHEET", x.measures(0, 3, 0, 1), 0);
        due("that is no FAULT", x.fault(), 0);
    }

    private static void unlikeThings() {
        told("each of two THINGS a, b (unlike), ON (at first) or OFF; it is KEPT by a CELL of a and one of b.");
        HeardPlaces x = rowOf(3, 2);
        x.thing(1, 0);
        for (int kind = 0; kind < 5; kind++) {
            for (int t = 0; t < 3; t++) {
                due("both are one", x.measure(kind, t, t, 1, 1), OUTSIDE);
            }
            due("no such THING, both of them one", x.measure(kind, 3, 3, 1, 1), UNKNOWN);
        }
        due("none came", x.many(2), 0);
        due("measure", x.measure(1, 0, 2, 0, 0), 0);
        due("ON at first", x.told(0, 5), 1);
        due("how many are ON", x.many(3), 1);
        due("it narrows at first", x.cells(0), 1);
        due("another of the same two", x.measure(1, 0, 2, 0, 0), 1);
        due("turned round", x.measure(1, 2, 0, 0, 0), 2);
    }

    private static void farKeeps() {
        told("Kinds: 0 FAR: p <= DISTANCE <= q (0 .. 98 each, p not above q).");
        int[] ends = {MIN, -1, 0, 1, 2, 49, 97, 98, 99, MAX};
        for (int p : ends) {
            HeardPlaces x = anchored(0);
            int came = 0;
            for (int q : ends) {
                boolean taken = p >= 0 && q <= 98 && p <= q;
                due("far " + p + ", " + q, x.measure(0, 0, 1, p, q), taken ? came : OUTSIDE);
                for (int c : new int[] {0, 1, 9, 10, 7, 62, 63}) {
                    int d = square(0, c);
                    if (taken) {
                        due("at " + d + " by " + p + ", " + q, x.keeps(came, 0, c), d >= p && d <= q ? 1 : 0);
                        due("and back", x.keeps(came, c, 0), d >= p && d <= q ? 1 : 0);
                    }
                }
                came += taken ? 1 : 0;
            }
        }
    }

    private static void hearsAndDeafKeep() {
        told("1 HEARS, a FAR with p 0: DISTANCE q at most. 2 DEAF, a HEARS turned round: DISTANCE above q.");
        for (int cell : new int[] {0, 36}) {
            for (int half = 0; half < 4; half++) {
                HeardPlaces x = anchored(cell);
                for (int i = 0; i < 25 && 25 * half + i <= 98; i++) {
                    int q = 25 * half + i;
                    long near = 0;
                    for (int c = 0; c < 64; c++) {
                        near |= square(cell, c) <= q ? 1L << c : 0;
                    }
                    due("hears", x.measure(1, 0, 1, i % 2 == 0 ? MIN : MAX, q), 2 * i);
                    due("hears " + q, x.cells(1), near);
                    due("turn", x.turn(2 * i, false), 1);
                    due("deaf", x.measure(2, 1, 0, i % 2 == 0 ? MAX : -1, q), 2 * i + 1);
                    due("deaf to " + q, x.cells(1), ~near);
                    due("turn", x.turn(2 * i + 1, false), 1);
                }
            }
        }
        HeardPlaces x = anchored(0);
        for (int kind = 1; kind < 3; kind++) {
            for (int q : new int[] {MIN, -1, 99, MAX}) {
                due("q " + q, x.measure(kind, 0, 1, 0, q), OUTSIDE);
            }
        }
    }

    private static boolean isBeside(int p, int dx, int dy) {
        switch (p) {
            case 0:
                return dx > 0 && Math.abs(dy) <= dx;
            case 1:
                return dy > 0 && Math.abs(dx) <= dy;
            case 2:
                return dx < 0 && Math.abs(dy) <= -dx;
            default:
                return dy < 0 && Math.abs(dx) <= -dy;
        }
    }

    private static void sidesKeep() {
        told("3 SIDE: b lies on the side p of a: with dx, dy from a to b: 0: dx > 0, size of dy at most dx; 1: dy > 0, size of dx"
            + " at most dy; 2: dx < 0, size of dy at most -dx; 3: dy < 0, size of dx at most -dy.");
        for (int cell = 0; cell < 64; cell += 7) {
            HeardPlaces x = anchored(cell);
            for (int m = 0; m < 8; m++) {
                int p = m % 4;
                long due = 0;
                for (int c = 0; c < 64; c++) {
                    int sign = m < 4 ? 1 : -1;
                    due |= isBeside(p, sign * (c % 8 - cell % 8), sign * (c / 8 - cell / 8)) ? 1L << c : 0;
                }
                due("side", x.measure(3, m < 4 ? 0 : 1, m < 4 ? 1 : 0, p, m % 2 == 0 ? MIN : MAX), m);
                due("side " + p + " of " + cell + (m < 4 ? "" : ", turned round"), x.cells(1), due);
                due("not on its own", x.keeps(m, cell, cell), 0);
                due("turn", x.turn(m, false), 1);
            }
            due("p below", x.measure(3, 0, 1, -1, 0), OUTSIDE);
            due("p beyond", x.measure(3, 0, 1, 4, 0), OUTSIDE);
        }
    }

    private static void stepsKeep() {
        told("4 STEPS, a HEARS: HOPS by the reach q from a to b are just p (p 0 .. 20, q 1 .. 98).");
        HeardPlaces x = winding();
        x.thing(1, 0);
        x.thing(0, 0);
        int[] cells = {0, 1, 2, 3, 4, 5, 6, 7, at(7, 1), at(7, 2), at(6, 2), at(5, 2), at(4, 2), at(3, 2), at(2, 2), at(1, 2),
            at(0, 2), at(0, 3), at(0, 4), at(1, 4), at(2, 4)};
        for (int p = 0; p <= 20; p++) {
            due("steps", x.measure(4, p % 2, 1 - p % 2, p, 1), p);
            due(p + " steps", x.cells(1), 1L << cells[p]);
            due("just as many", x.keeps(p, 0, cells[p]), 1);
            due("no more", x.keeps(p, 0, cells[Math.max(0, p - 1)]), p == 0 ? 1 : 0);
            due("turn", x.turn(p, false), 1);
        }
        for (int p : new int[] {MIN, -1, 21, MAX}) {
            due("p " + p, x.measure(4, 0, 1, p, 1), OUTSIDE);
        }
        for (int q : new int[] {MIN, -1, 0, 99, MAX}) {
            due("q " + q, x.measure(4, 0, 1, 0, q), OUTSIDE);
        }
        HeardPlaces y = anchored(0);
        due("q 98", y.measure(4, 0, 1, 1, 98), 0);
        due("all but itself", y.cells(1), ~1L);
        due("q 97", y.measure(4, 0, 1, 2, 97), 1);
        due("the other corner alone", y.cells(1), 1L << 63);
        due("turn", y.turn(0, false), 1);
        due("the other corner alone", y.cells(1), 1L << 63);
        told("of STEPS a WALL is never KEPT");
        due("wall", y.wall(63, true), 1);
        due("a WALL", y.keeps(1, 0, 63), 0);
        due("a WALL", y.keeps(1, 63, 0), 0);
        due("steps of none", y.measure(4, 0, 1, 0, 5), 2);
        due("a WALL and itself", y.keeps(2, 63, 63), 0);
        due("a FREE CELL and itself", y.keeps(2, 62, 62), 1);
    }

    private static void stepsOfANewField() {
        told("A FIELD anew, all FREE; THINGS, MEASURES, MOVERS, TRUST, THE MAP go, ALONE is off");
        HeardPlaces x = anchored(0);
        x.wall(1, true);
        x.measure(4, 0, 1, 1, 1);
        due("one step", x.cells(1), 1L << 8);
        x.box(1, 7, 7, 7, 7);
        due("a quarrel", x.quarrel(), 1);
        due("liars", x.liars(1), 2);
        x.alone(true);
        x.field(8, 1);
        due("no quarrel without THINGS", x.quarrel(), NONE);
        due("no liars", x.liars(0), 0);
        due("one set of none", x.liars(1), 1);
        due("on one CELL", x.many(5), 0);
        due("sum of CELLS", x.many(6), 0);
        due("cells", x.cells(1), 0);
        due("group", x.group(1), 0);
        due("placings", x.placings(1), UNKNOWN);
        due("right", x.check(), 1);
        due("ALONE is off", x.alone(false), 0);
        x.thing(1, 0);
        x.thing(0, 0);
        x.measure(4, 0, 1, 2, 1);
        due("two steps, all FREE", x.cells(1), 1L << 2);
        due("placings", x.placings(1), 1);
    }

    /** All orders of 0 .. 3. */
    private static int[][] orders() {
        int[][] all = new int[24][];
        int n = 0;
        for (int i = 0; i < 256; i++) {
            int[] order = {i & 3, i >> 2 & 3, i >> 4 & 3, i >> 6 & 3};
            if ((1 << order[0] | 1 << order[1] | 1 << order[2] | 1 << order[3]) == 15) {
                all[n++] = order;
            }
        }
        return all;
    }

    private static void narrowsToItsEnd() {
        told("of a only those stay for which one of b's is there that KEEPS it with them, of b likewise, again and again till"
            + " nothing changes. (What it ends at does not hang on the order.)");
        for (int[] order : orders()) {
            for (int round = 0; round < 16; round++) {
                for (int numbers = 0; numbers < 2; numbers++) {
                    narrowChain(order, round, numbers == 0);
                }
            }
        }
    }

    /** A chain from an ANCHOR on CELL 0, each a CELL further off at most; ends are at 0 .. i. */
    private static void narrowChain(int[] order, int round, boolean rising) {
        HeardPlaces x = fieldOf(8, 1);
        for (int t = 0; t < 5; t++) {
            x.thing(t == (rising ? 0 : 4) ? 1 : 0, 0);
        }
        for (int m : order) {
            int a = rising ? m : 4 - m;
            int b = rising ? m + 1 : 3 - m;
            boolean turned = (round >> m & 1) != 0;
            x.measure(1, turned ? b : a, turned ? a : b, 0, 1);
        }
        for (int i = 0; i < 5; i++) {
            due("cells of the chain", x.cells(rising ? i : 4 - i), (2L << i) - 1);
        }
        due("box", x.box(rising ? 4 : 0, 4, 0, 7, 0), 4);
        for (int i = 0; i < 5; i++) {
            due("cells from both ends", x.cells(rising ? i : 4 - i), 1L << i);
        }
    }

    private static void quarrelOfOne() {
        told("A QUARREL: some THING has no CELL then.");
        told("Whether there is a QUARREL: how many MEASURES are in THE LEAST one (0: an empty one); NONE: there is"
            + " none.");
        HeardPlaces x = rowOf(2, 3);
        x.thing(1, 0);
        due("all have CELLS", x.quarrel(), NONE);
        x.measure(1, 3, 0, 0, 0);
        due("one CELL is enough", x.quarrel(), NONE);
        due("that CELL", x.about(0, 2), 1);
        x.measure(2, 3, 0, 0, 0);
        due("none", x.about(0, 2), 0);
        due("first of none", x.about(0, 3), NONE);
        due("a quarrel of two", x.quarrel(), 2);
        due("others have theirs", x.about(1, 2), 2);
        due("none of the ANCHOR, too", x.cells(3), 0);
        due("sum", x.many(6), 4);
        HeardPlaces y = rowOf(1, 24);
        due("24 THINGS, each of one CELL", y.many(5), 24);
        due("no quarrel", y.quarrel(), NONE);
        y.measure(2, 22, 23, 0, 0);
        due("the last of them", y.quarrel(), 1);
        // Others that are NARROWED behind the one that has none do not hide it, nor those that all keep.
        HeardPlaces z = rowOf(4, 5);
        z.measure(1, 2, 3, 0, 98);
        z.box(4, 4, 0, 7, 0);
        due("one that no MEASURE is of", z.quarrel(), 0);
        due("it has none", z.about(4, 3), NONE);
        z.box(4, 0, 0, 7, 0);
        due("none", z.quarrel(), NONE);
        z.measure(0, 0, 1, 98, 98);
        z.measure(3, 2, 3, 0, 0);
        due("the one in the middle", z.quarrel(), 1);
        due("it", z.told(1, 6), 1);
        due("the others have CELLS", z.about(2, 2), 3);
        due("the sum", z.many(6), 3 + 3 + 4);
    }

    private static void leastQuarrels() {
        told("all MEASURES that are ON, by number: each is left out, if what is left (of those not left out ahead) still makes a"
            + " QUARREL; those that stay are it.");
        HeardPlaces x = rowOf(2, 1);
        x.thing(1, 0);
        for (int m = 0; m < 60; m++) {
            x.measure(m % 2 == 0 ? 1 : 2, 1, 0, 0, 0);
        }
        due("two of sixty", x.quarrel(), 2);
        for (int m = 0; m < 60; m++) {
            due("the last of each kind: " + m, x.told(m, 6), m >= 58 ? 1 : 0);
        }
        x.turn(59, false);
        due("still two", x.quarrel(), 2);
        for (int m = 0; m < 60; m++) {
            due("the last that are ON: " + m, x.told(m, 6), m == 57 || m == 58 ? 1 : 0);
        }
        HeardPlaces y = rowOf(3, 1);
        y.thing(1, 0);
        y.measure(0, 1, 0, 9, 9);
        due("one by itself", y.quarrel(), 1);
        y.measure(1, 1, 0, 0, 0);
        y.measure(2, 1, 0, 0, 0);
        due("those of lesser number are left out first", y.quarrel(), 2);
        due("though one were enough", y.told(0, 6), 0);
        y.measure(0, 1, 0, 9, 9);
        due("one is enough", y.quarrel(), 1);
        due("the last", y.told(3, 6), 1);
    }

    private static void emptyQuarrel() {
        told("(Without any MEASURE a QUARREL is there as well, if some THING has no TOLD CELL: then it is empty.)");
        HeardPlaces x = rowOf(2, 2);
        due("none yet", x.quarrel(), NONE);
        due("box", x.box(1, 2, 0, 7, 7), 0);
        due("empty", x.quarrel(), 0);
        x.measure(1, 0, 1, 0, 98);
        x.measure(2, 0, 1, 0, 98);
        due("still empty", x.quarrel(), 0);
        due("not in it", x.told(0, 6), 0);
        due("nor this one", x.told(1, 6), 0);
        x.box(1, 0, 0, 0, 0);
        due("now there is one", x.quarrel(), 1);
        x.turn(1, false);
        due("none", x.quarrel(), NONE);
        HeardPlaces y = fieldOf(1, 1);
        y.wall(0, true);
        due("a WALL alone", y.quarrel(), NONE);
        y.thing(0, 0);
        due("a THING and no CELL", y.quarrel(), 0);
        due("no PLACING", y.placings(0), 0);
        due("no TRIAL", y.trials(), 0);
    }

    // ---- 3 GROUPS

    private static void groupsByMeasures() {
        told("it, and all that are no ANCHORS come to from it by MEASURES that are ON, from one that is no ANCHOR to another"
            + " such. (Of an ANCHOR: it alone.)");
        HeardPlaces x = rowOf(1, 24);
        for (int t = 23; t > 0; t--) {
            x.measure(1, t % 2 == 0 ? t : t - 1, t % 2 == 0 ? t - 1 : t, 0, 0);
            due("those that are come to", x.group(23), 0xffffff & -1 << t - 1);
            due("the first by itself yet", x.group(0), t == 1 ? 0xffffff : 1);
        }
        for (int t = 0; t < 24; t++) {
            due("all of them", x.group(t), 0xffffff);
        }
        x.turn(11, false);
        due("cut in two", x.group(0), 0xfff);
        due("cut in two", x.group(23), 0xfff000);
        HeardPlaces y = rowOf(1, 2);
        y.thing(1, 0);
        y.thing(2, 0);
        for (int t = 0; t < 2; t++) {
            for (int a = 2; a < 4; a++) {
                y.measure(1, t, a, 0, 0);
            }
        }
        y.measure(1, 2, 3, 0, 0);
        for (int t = 0; t < 4; t++) {
            due("each alone", y.group(t), 1 << t);
        }
        due("no such", y.group(4), 0);
        due("no such", y.group(-1), 0);
    }

    private static void placingsInOrder() {
        told("In order: by THINGS' numbers, then by CELLS.");
        told("The CELL of THING u in the n-th PLACING of its GROUP. UNKNOWN: u, n; SPENT.");
        HeardPlaces x = fieldOf(2, 2);
        addThings(x, 3);
        x.measure(1, 2, 1, 0, 98);
        x.measure(1, 0, 2, 0, 98);
        int[] cells = {0, 1, 8, 9};
        due("all", x.placings(1), 64);
        for (int n = 0; n < 64; n++) {
            due("the first THING", x.nth(0, n), cells[n >> 4]);
            due("the second", x.nth(1, n), cells[n >> 2 & 3]);
            due("the third", x.nth(2, n), cells[n & 3]);
        }
        due("none after them", x.nth(0, 64), UNKNOWN);
        due("none ahead", x.nth(0, -1), UNKNOWN);
        due("none to take", x.take(0, 64), UNKNOWN);
        due("the last", x.take(0, 63), 3);
        for (int t = 0; t < 3; t++) {
            due("all on the last", x.about(t, 5), 9);
        }
    }

    private static void aloneInGroups() {
        told("with the rule ALONE (off at first) no two on one CELL, and none on the CELL of an ANCHOR that is not of"
            + " the GROUP.");
        HeardPlaces x = rowOf(4, 3);
        due("off at first", x.alone(false), 0);
        x.measure(1, 0, 1, 0, 98);
        x.measure(1, 1, 2, 0, 98);
        due("any", x.placings(0), 64);
        x.alone(true);
        due("no two on one, though no MEASURE is of them", x.placings(0), 24);
        x.thing(1, 3);
        due("nor on an ANCHOR's", x.placings(0), 6);
        x.put(2, 0);
        due("THE MAP does not count", x.placings(0), 6);
        x.thing(2, 3);
        due("two ANCHORS on one CELL", x.placings(0), 6);
        due("neither may stand there", x.placings(3), 0);
        due("neither may stand there", x.placings(4), 0);
        x.thing(0, 0);
        due("another GROUP's THINGS do not count", x.placings(5), 3);
        due("nor these for it", x.placings(0), 6);
        due("as NARROWED all the same", x.about(0, 2), 4);
        x.thing(1, 2);
        due("three on two CELLS", x.placings(0), 0);
        due("this one may", x.placings(6), 1);
        x.alone(false);
        due("off again", x.placings(0), 64);
        due("off again", x.placings(3), 1);
        HeardPlaces y = new HeardPlaces();
        addThings(y, 24);
        y.alone(true);
        for (int t = 0; t < 24; t++) {
            due("all CELLS, for none is an ANCHOR", y.could(t), 64);
        }
    }

    private static void trialsAreCounted() {
        told("each CELL of its (as NARROWED) that is come to is a TRIAL; it stays if it keeps MEASURES with those put ahead of"
            + " it (and ALONE).");
        HeardPlaces x = rowOf(3, 3);
        x.measure(0, 0, 1, 1, 1);
        x.measure(0, 1, 2, 1, 1);
        due("placings", x.placings(0), 6);
        due("3, 3 for each of them, 3 for each pair that stays", x.trials(), 3 + 9 + 12);
        x.alone(true);
        due("placings", x.placings(0), 2);
        due("as many are come to", x.trials(), 3 + 9 + 12);
        x.thing(1, 0);
        due("placings", x.placings(0), 0);
        due("the ANCHOR's CELL is a TRIAL that does not stay", x.trials(), 3 + 6 + 6);
        due("an ANCHOR", x.placings(3), 1);
        due("one TRIAL", x.trials(), 1);
        told("TRIALS of the latest placings() that was not UNKNOWN (60000, if SPENT by them; 0, if by THINGS, ahead of"
            + " any).");
        due("UNKNOWN", x.placings(4), UNKNOWN);
        due("as they were", x.trials(), 1);
        due("other calls are no placings()", x.could(0), 0);
        due("as they were", x.trials(), 1);
        due("again", x.placings(0), 0);
        due("those of the latest", x.trials(), 15);
        due("ahead of any", new HeardPlaces().trials(), 0);
    }

    /** A chain of THINGS, all on one CELL. */
    private static HeardPlaces chainOf(int things) {
        HeardPlaces x = rowOf(1, things);
        for (int t = 1; t < things; t++) {
            x.measure(1, t - 1, t, 0, 0);
        }
        return x;
    }

    private static void spentCallsDue(HeardPlaces x, int t) {
        due("placings", x.placings(t), SPENT);
        due("nth", x.nth(t, 0), SPENT);
        due("nth", x.nth(t, MAX), SPENT);
        due("nth of no such n", x.nth(t, -1), UNKNOWN);
        due("sure", x.sure(t), SPENT);
        due("could", x.could(t), SPENT);
        due("together with itself", x.together(t, 0, t, 0), SPENT);
        due("together", x.together(t, 0, t + 1, 0), SPENT);
        due("ask", x.ask(t, 0), SPENT);
        due("ask", x.ask(t, 1), SPENT);
        for (int what = 0; what < 3; what++) {
            due("between", x.between(t, what), SPENT);
        }
        due("take", x.take(t, 0), SPENT);
        due("THE MAP has none", x.many(7), 0);
        due("group", x.group(t) >>> t & 1, 1);
    }

    private static void spentByThings() {
        told("More than 9 THINGS, or more TRIALS than 60000: SPENT.");
        HeardPlaces nine = chainOf(9);
        due("nine", nine.placings(4), 1);
        due("their TRIALS", nine.trials(), 9);
        due("nth", nine.nth(8, 0), 0);
        due("sure", nine.sure(8), 0);
        due("could", nine.could(0), 1);
        due("together", nine.together(0, 0, 8, 0), 1);
        due("ask", nine.ask(8, 0), 0);
        due("between", nine.between(8, 1), 1);
        due("between", nine.between(8, 2), 1);
        due("take", nine.take(3, 0), 9);
        for (int things = 10; things <= 24; things += 7) {
            HeardPlaces ten = chainOf(things);
            spentCallsDue(ten, 4);
            due("none of their TRIALS", ten.trials(), 0);
            ten.turn(8, false);
            due("nine again", ten.placings(0), 1);
            due("their TRIALS", ten.trials(), 9);
        }
        HeardPlaces apart = rowOf(1, 23);
        apart.thing(1, 0);
        for (int t = 0; t < 23; t++) {
            apart.measure(1, 23, t, 0, 0);
        }
        due("many by one ANCHOR are many GROUPS", apart.placings(22), 1);
        HeardPlaces mixed = chainOf(10);
        mixed.thing(0, 0);
        due("t's GROUP", mixed.together(0, 0, 10, 0), SPENT);
        due("u's GROUP", mixed.together(10, 0, 0, 0), SPENT);
        due("not of these", mixed.together(10, 0, 10, 0), 1);
    }

    private static void spentByTrials() {
        told("More than 9 THINGS, or more TRIALS than 60000: SPENT.");
        HeardPlaces x = new HeardPlaces();
        addThings(x, 3);
        x.box(0, 0, 0, 7, 4);
        x.box(1, 0, 0, 4, 7);
        x.box(2, 0, 0, 5, 5);
        x.measure(1, 0, 1, 0, 98);
        x.measure(1, 1, 2, 0, 98);
        due("40 times 40 times 36", x.placings(0), 57600);
        due("trials", x.trials(), 40 + 1600 + 57600);
        due("the last", x.nth(2, 57599), at(5, 5));
        due("none after it", x.nth(2, 57600), UNKNOWN);
        due("worst", x.ask(2, 1), 1440);
        x.box(2, 0, 0, 7, 4);
        due("40 times 40 times 40", x.placings(2), SPENT);
        due("as many as there may be", x.trials(), 60000);
        spentCallsDue(x, 0);
        x.box(0, 0, 0, 0, 0);
        due("fewer again", x.placings(2), 1600);
        due("trials", x.trials(), 1 + 40 + 1600);
    }

    /** 3 + 3 * 7 + 3 * 7 * 56 + 11760 + 47040 TRIALS are just 60000; with a THING of one CELL ahead there is one more. */
    private static void spentByOneTrial() {
        told("(60000, if SPENT by them; 0, if by THINGS, ahead of any)");
        for (int ahead = 0; ahead < 2; ahead++) {
            HeardPlaces x = new HeardPlaces();
            addThings(x, 5 + ahead);
            int[][] boxes = {{2, 0}, {6, 0}, {6, 7}, {4, 1}, {1, 1}};
            if (ahead == 1) {
                x.box(0, 7, 7, 7, 7);
            }
            for (int i = 0; i < 5; i++) {
                x.box(i + ahead, 0, 0, boxes[i][0], boxes[i][1]);
            }
            for (int t = 1; t < 5 + ahead; t++) {
                x.measure(1, 0, t, 0, 98);
            }
            due("one TRIAL is one too many", x.placings(2), ahead == 0 ? 47040 : SPENT);
            due("trials", x.trials(), 60000);
            due("could", x.could(0), ahead == 0 ? 3 : SPENT);
        }
    }

    private static void sureOfOneAtLeast() {
        told("A THING is SURE of a CELL, if all PLACINGS of its GROUP (one at least) have it there.");
        told("The CELL of which a THING is SURE; NONE. UNKNOWN; SPENT.");
        HeardPlaces x = rowOf(2, 2);
        due("two", x.sure(0), NONE);
        x.measure(2, 0, 1, 0, 0);
        due("two", x.sure(0), NONE);
        x.box(0, 1, 0, 1, 0);
        due("one", x.sure(0), 1);
        due("one", x.sure(1), 0);
        x.thing(1, 0);
        due("an ANCHOR", x.sure(2), 0);
        x.alone(true);
        due("no PLACING at all", x.placings(0), 0);
        due("none", x.sure(0), NONE);
        due("none", x.sure(1), NONE);
        due("no CELL", x.could(0), 0);
        due("the ANCHOR yet", x.sure(2), 0);
        x.alone(false);
        x.box(1, 1, 0, 1, 0);
        due("none of a quarrel", x.sure(0), NONE);
        due("no CELL", x.could(1), 0);
        HeardPlaces corner = new HeardPlaces();
        corner.thing(0, 0);
        corner.box(0, 7, 7, 7, 7);
        due("the last CELL", corner.sure(0), 63);
        due("could", corner.could(0), 1);
        corner.box(0, 0, 0, 7, 7);
        due("all CELLS", corner.could(0), 64);
    }

    private static void goTogether() {
        told("CELLS of two THINGS GO TOGETHER, if a PLACING has both; of unlike GROUPS, if each has one that has its"
            + " own.");
        told("Whether CELLS of two THINGS GO TOGETHER: 1, 0");
        HeardPlaces x = rowOf(3, 3);
        x.measure(2, 0, 1, 0, 0);
        x.box(2, 1, 0, 2, 0);
        for (int c = 0; c < 3; c++) {
            for (int d = 0; d < 3; d++) {
                due("of one GROUP", x.together(0, c, 1, d), c == d ? 0 : 1);
                due("of unlike GROUPS", x.together(0, c, 2, d), d > 0 ? 1 : 0);
                due("turned round", x.together(2, d, 0, c), d > 0 ? 1 : 0);
                due("of one THING", x.together(2, c, 2, d), c == d && c > 0 ? 1 : 0);
            }
        }
        x.turn(0, false);
        due("no GROUP any more", x.together(0, 1, 1, 1), 1);
        x.thing(1, 1);
        x.alone(true);
        due("one has none", x.together(0, 1, 2, 2), 0);
        due("the other has none", x.together(0, 0, 2, 1), 0);
        due("each has one", x.together(0, 2, 2, 2), 1);
        due("an ANCHOR", x.together(3, 1, 2, 2), 1);
        due("not its CELL", x.together(3, 0, 2, 2), 0);
    }

    private static void bestAsked() {
        told("WORST of a THING: the most PLACINGS of the GROUP that have it on one CELL. BEST ASKED: the THING with the least"
            + " WORST, of several the first.");
        told("BEST ASKED of the GROUP of a THING: 0 the THING, 1 its WORST.");
        HeardPlaces x = rowOf(4, 4);
        for (int t = 1; t < 4; t++) {
            x.measure(1, t - 1, t, 0, 98);
        }
        int[] widths = {2, 4, 3, 4};
        for (int t = 0; t < 4; t++) {
            x.box(t, 0, 0, widths[t] - 1, 0);
        }
        due("placings", x.placings(0), 96);
        due("the first of the two least", x.ask(3, 0), 1);
        due("its WORST", x.ask(3, 1), 24);
        x.box(1, 0, 0, 2, 0);
        due("the last", x.ask(0, 0), 3);
        due("its WORST", x.ask(0, 1), 18);
        x.box(3, 0, 0, 0, 0);
        due("the second", x.ask(0, 0), 1);
        due("its WORST", x.ask(0, 1), 6);
        due("each by itself", chainOf(1).ask(0, 1), 1);
        x.alone(true);
        x.thing(1, 0);
        due("no PLACING: the first", x.ask(3, 0), 0);
        due("its WORST", x.ask(3, 1), 0);
        due("an ANCHOR", x.ask(4, 0), 4);
        due("its WORST", x.ask(4, 1), 1);
    }

    private static void betweenTwo() {
        told("the two with the least, of several the first by the first THING, then by the second.");
        told("BETWEEN of the GROUP of a THING: 0 the first, 1 the second THING, 2 that number.");
        HeardPlaces x = rowOf(4, 4);
        for (int t = 1; t < 4; t++) {
            x.measure(1, 0, t, 0, 98);
        }
        int[][] ofAll = {{0, 0}, {1, 1}, {2, 96}};
        for (int[] pair : ofAll) {
            due("of all alike the first two", x.between(3, pair[0]), pair[1]);
        }
        x.box(0, 0, 0, 0, 0);
        // Of 0 and another each DISTANCE is there 16 times, of two others 0 is 16 times and 1 is 24 times.
        due("the first two", x.between(2, 0), 0);
        due("the first two", x.between(2, 1), 1);
        due("at one DISTANCE", x.between(2, 2), 16);
        x.box(1, 0, 0, 0, 0);
        due("0 and 2 now", x.between(2, 0), 0);
        due("0 and 2 now", x.between(2, 1), 2);
        due("at one DISTANCE", x.between(2, 2), 4);
        x.box(2, 0, 0, 0, 0);
        due("0 and 3 now", x.between(2, 1), 3);
        due("at one DISTANCE", x.between(2, 2), 1);
        HeardPlaces y = new HeardPlaces();
        addThings(y, 3);
        y.box(0, 0, 0, 0, 0);
        y.box(1, 0, 0, 0, 0);
        y.box(2, 7, 7, 7, 7);
        y.measure(1, 0, 1, 0, 98);
        y.measure(0, 1, 2, 98, 98);
        due("as far as can be", y.between(0, 2), 1);
        due("the first two", y.between(0, 1), 1);
        y.thing(1, 0);
        due("but one THING", y.between(3, 0), NONE);
        y.turn(0, false);
        due("but one THING", y.between(0, 2), NONE);
    }

    private static void betweenAslant() {
        told("BETWEEN: of two THINGS of it the most PLACINGS that have them at one DISTANCE");
        // THING 1 down from 0 by 0 .. 3, or along by 0 .. 3: at 0 twice over, at each other DISTANCE once.
        HeardPlaces x = fieldOf(4, 4);
        addThings(x, 2);
        x.measure(1, 0, 1, 0, 98);
        x.box(0, 0, 0, 0, 0);
        x.box(1, 0, 0, 0, 3);
        due("down", x.between(0, 2), 1);
        x.box(1, 0, 0, 3, 0);
        due("along", x.between(0, 2), 1);
        x.box(1, 0, 0, 3, 3);
        due("1, 4, 5, 9, 10 and 13 are twice there", x.between(1, 2), 2);
        x.box(0, 0, 0, 3, 0);
        // Two rows: 8 at 1 along or down, and 6 at 2 aslant; 4 at 0.
        x.box(1, 0, 0, 3, 1);
        due("at 1", x.between(1, 2), 10);
        x.box(1, 0, 1, 3, 1);
        due("at 2", x.between(1, 2), 6);
        x.box(1, 0, 3, 3, 3);
        due("at 10", x.between(1, 2), 6);
    }

    // ---- 4 THE MAP

    private static void mapHasNone() {
        told("of each THING a CELL, or none (at first).");
        HeardPlaces x = fieldOf(3, 2);
        addThings(x, 23);
        x.thing(1, 9);
        for (int t = 0; t < 24; t++) {
            due("none at first", x.about(t, 5), NONE);
        }
        due("how many", x.many(7), 0);
        due("right", x.check(), 1);
        for (int t = 0; t < 24; t++) {
            due("none before", x.put(t, t == 23 ? 9 : 2), NONE);
            due("how many", x.many(7), t + 1);
        }
        due("right", x.check(), 1);
        for (int t = 0; t < 24; t++) {
            due("what it had", x.put(t, -9), t == 23 ? 9 : 2);
            due("none any more", x.put(t, -9), NONE);
        }
        due("how many", x.many(7), 0);
    }

    private static void mapRight() {
        told("-100 less the first THING that does not stand on a TOLD CELL of its, -200 less the first that, with ALONE, stands"
            + " where one of lesser number does, -20 less the first MEASURE that is not KEPT, in this order.");
        told("It is RIGHT, if each THING that has a CELL stands on one of its TOLD CELLS; with ALONE no two on one;"
            + " and all MEASURES that are ON of two THINGS that have CELLS are KEPT.");
        HeardPlaces x = rowOf(2, 24);
        for (int t = 0; t < 24; t++) {
            x.put(t, 0);
        }
        due("right", x.check(), 1);
        x.wall(1, true);
        x.put(23, 1);
        due("the last THING", x.check(), -123);
        x.put(0, 1);
        due("the first THING", x.check(), -100);
        x.wall(1, false);
        due("right", x.check(), 1);
        x.put(0, 0);
        x.alone(true);
        x.put(1, 1);
        due("the first that stands where a lesser one does", x.check(), -202);
        for (int t = 2; t < 23; t++) {
            x.put(t, -9);
        }
        due("the last of all", x.check(), -223);
        x.put(23, -9);
        due("right", x.check(), 1);
        for (int m = 0; m < 60; m++) {
            x.measure(1, 0, 1, 0, m == 0 || m == 59 ? 0 : 1);
        }
        due("the first MEASURE", x.check(), -20);
        x.turn(0, false);
        due("the last MEASURE", x.check(), -79);
        x.put(0, -9);
        due("those of two that have CELLS", x.check(), 1);
        x.put(0, 0);
        x.put(1, 0);
        due("ALONE ahead of MEASURES", x.check(), -201);
        x.box(0, 1, 0, 1, 0);
        due("TOLD ahead of both", x.check(), -100);
        x.turn(59, false);
        x.alone(false);
        x.box(0, 0, 0, 0, 0);
        due("right", x.check(), 1);
        HeardPlaces y = fieldOf(2, 2);
        y.thing(1, 0);
        y.put(0, 1);
        due("an ANCHOR off its CELL", y.check(), -100);
        y.put(0, 0);
        due("an ANCHOR on it", y.check(), 1);
    }

    private static void turnings() {
        told("TURNINGS 0 .. 7 of (dx, dy): 0 (dx, dy), 1 (-dy, dx), 2 (-dx, -dy), 3 (dy, -dx), 4 (-dx, dy), 5 (dx, -dy), 6 (dy,"
            + " dx), 7 (-dy, -dx).");
        for (int dx = -3; dx <= 3; dx++) {
            for (int dy = -3; dy <= 3; dy++) {
                int[][] turned = {{-dy, dx}, {-dx, -dy}, {dy, -dx}, {-dx, dy}, {dx, -dy}, {dy, dx}, {-dy, -dx}};
                HeardPlaces x = hung(at(4, 3), at(4 + dx, 3 + dy));
                int n = 0;
                for (int k = 1; k < 8; k++) {
                    int[] to = turned[k - 1];
                    if (to[0] != dx || to[1] != dy) {
                        due("turning", x.flip(1, n, 2), k);
                        due("flipped", x.flipped(1, n), 1);
                        due("(" + dx + ", " + dy + ") by " + k, x.put(1, at(4 + dx, 3 + dy)), at(4 + to[0], 3 + to[1]));
                        n++;
                    }
                }
                due("flips of (" + dx + ", " + dy + ")", x.flips(1), n);
                due("none after them", x.flip(1, n, 2), UNKNOWN);
            }
        }
    }

    /** An ANCHOR 0 and a THING 1 that hears it, both on THE MAP. */
    private static HeardPlaces hung(int joint, int cell) {
        HeardPlaces x = anchored(joint);
        x.measure(1, 0, 1, 0, 98);
        x.put(0, joint);
        x.put(1, cell);
        return x;
    }

    private static void flipsNeedAllOfTheGroup() {
        told("STATE: one of it has no CELL on THE MAP.");
        HeardPlaces x = rowOf(3, 3);
        x.measure(1, 0, 1, 0, 98);
        due("none has", x.flips(0), STATE);
        x.put(0, 0);
        due("one has", x.flips(0), STATE);
        due("flip", x.flip(0, 0, 0), STATE);
        due("flipped", x.flipped(1, 0), STATE);
        x.put(1, 1);
        due("both have: 0 about 1 by TURNINGS 2 and 4", x.flips(0), 2);
        due("the third is not of it", x.flips(2), STATE);
        x.measure(1, 1, 2, 0, 98);
        due("now it is", x.flips(0), STATE);
        x.turn(1, false);
        due("now it isn't", x.flips(1), 2);
        x.put(1, -9);
        due("STATE ahead of i and what", x.flip(0, -1, 9), STATE);
    }

    private static void jointsHaveCells() {
        told("JOINTS, one or two THINGS that have CELLS on it, each of the GROUP or an ANCHOR");
        // About an ANCHOR that has none there is no FLIP, wherever the others lie.
        for (int other = 0; other < 64; other++) {
            HeardPlaces x = new HeardPlaces();
            x.thing(1, 0);
            x.thing(1, at(5, 5));
            x.thing(0, 0);
            x.measure(1, 0, 2, 0, 98);
            x.measure(1, 1, 2, 0, 98);
            x.put(1, other);
            x.put(2, at(1, 2));
            due("the first JOINT has none", x.flips(2), 0);
            x.put(1, -9);
            x.put(0, other);
            due("the second JOINT has none", x.flips(2), 0);
        }
        HeardPlaces x = rowOf(3, 2);
        x.thing(1, 2);
        x.measure(1, 0, 1, 0, 98);
        x.put(0, 0);
        x.put(1, 1);
        x.put(2, 2);
        due("of the GROUP", x.flips(0), 2);
        due("that joint", x.flip(0, 0, 0), 1);
        due("no second", x.flip(0, 0, 1), NONE);
        x.measure(1, 2, 0, 0, 98);
        due("none that hangs on an ANCHOR besides", x.flips(0), 0);
        x.wall(2, false);
        x.turn(0, false);
        due("about the ANCHOR alone, out of the FIELD", x.flips(0), 0);
        x.put(0, 2);
        due("on the JOINT none moves", x.flips(0), 0);
    }

    private static void flipsOfAnAnchor() {
        told("what is left of the GROUP without the JOINTS, and come to from one of it by MEASURES that are ON");
        // An ANCHOR that THE MAP has off its CELL is a GROUP of its own, and turns about another one.
        HeardPlaces x = new HeardPlaces();
        x.thing(1, at(2, 4));
        x.thing(2, at(4, 4));
        x.measure(1, 0, 1, 0, 98);
        x.put(0, at(4, 6));
        due("the other has no CELL", x.flips(0), 0);
        x.put(1, at(4, 4));
        due("two TURNINGS bring it home", x.flips(0), 2);
        due("turning", x.flip(0, 0, 2), 1);
        due("turning", x.flip(0, 1, 2), 7);
        due("the JOINT", x.flip(0, 1, 0), 1);
        due("the PART", x.flip(0, 1, 3), 1);
        due("the other's none", x.flips(1), 0);
        x.turn(0, false);
        due("none by a MEASURE that is OFF", x.flips(0), 0);
        x.turn(0, true);
        due("flipped", x.flipped(0, 1), 1);
        due("home", x.about(0, 5), at(2, 4));
        due("none from there", x.flips(0), 0);
    }

    private static void partsHangOnJointsAlone() {
        told("all MEASURES that are ON of THINGS of the PART are of two of it, or of one of it and a JOINT, and of each JOINT one"
            + " at least is");
        // 0 is the middle of 1 and 2; 2 carries 3.
        HeardPlaces x = new HeardPlaces();
        addThings(x, 4);
        x.measure(0, 0, 1, 1, 1);
        x.measure(0, 2, 0, 1, 1);
        x.measure(0, 2, 3, 1, 1);
        int[] cells = {at(3, 3), at(2, 3), at(4, 3), at(5, 3)};
        for (int t = 0; t < 4; t++) {
            x.put(t, cells[t]);
        }
        // All on a line: TURNING 5 moves none; about an end, 2 and 4 lead out of the FIELD.
        due("about one", count(x, 0, 0, NONE, 1 << 1), 6);
        due("about one", count(x, 0, 0, NONE, 1 << 2 | 1 << 3), 6);
        due("about an end", count(x, 0, 1, NONE, 13), 4);
        due("about the second", count(x, 0, 2, NONE, 3), 6);
        due("about the second", count(x, 0, 2, NONE, 8), 6);
        due("about the other end", count(x, 0, 3, NONE, 7), 4);
        due("between two that do not move it", count(x, 0, 0, 3, 4), 0);
        due("no others", x.flips(0), 32);
        x.put(3, at(4, 4));
        // Now 2 lies aside of the line from 0 to 3: (dy, dx) leaves 3 and takes 2 over.
        due("about two", count(x, 0, 0, 3, 4), 1);
        x.thing(1, at(6, 6));
        x.measure(1, 4, 2, 0, 98);
        due("not if it hangs on another", count(x, 0, 0, 3, 4), 0);
        due("not if a THING of the PART does", count(x, 0, 0, NONE, 12), 0);
        x.turn(3, false);
        due("OFF it does not", count(x, 0, 0, 3, 4), 1);
        x.put(4, at(6, 6));
        due("no JOINT that no MEASURE is of", count(x, 0, 0, 4, 2), 0);
    }

    /** How many FLIPS of a THING's GROUP are about these JOINTS, of this PART. */
    private static int count(HeardPlaces x, int t, int first, int second, int part) {
        int flips = x.flips(t);
        int n = 0;
        for (int i = 0; i < flips; i++) {
            n += x.flip(t, i, 0) == first && x.flip(t, i, 1) == second && x.flip(t, i, 3) == part ? 1 : 0;
            if (n > 0 && x.flip(t, i, 0) != first) {
                break;
            }
        }
        return n;
    }

    private static void secondJointStays() {
        told("a TURNING 1 .. 7 about the CELL of the first JOINT that leaves the second one's");
        // From the first JOINT to the second: only one TURNING leaves it, by its direction.
        int[][] ways = {{2, 0, 5}, {0, 2, 4}, {2, 2, 6}, {2, -2, 7}, {-2, 0, 5}, {0, -2, 4}, {-2, -2, 6}, {-2, 2, 7}};
        for (int[] way : ways) {
            HeardPlaces x = new HeardPlaces();
            addThings(x, 3);
            x.measure(1, 0, 2, 0, 98);
            x.measure(1, 1, 2, 0, 98);
            x.put(0, at(3, 3));
            x.put(1, at(3 + way[0], 3 + way[1]));
            x.put(2, at(4, 5));
            int last = x.flips(2) - 1;
            due("the first JOINT", x.flip(2, last, 0), 0);
            due("the second JOINT", x.flip(2, last, 1), 1);
            due("the TURNING", x.flip(2, last, 2), way[2]);
            due("the one ahead is about one", x.flip(2, last - 1, 1), NONE);
            x.put(2, at(3 + way[0] / 2, 3 + way[1] / 2));
            due("on the line none moves", count(x, 2, 0, 1, 4), 0);
        }
        HeardPlaces x = new HeardPlaces();
        addThings(x, 3);
        x.measure(1, 0, 2, 0, 98);
        x.measure(1, 1, 2, 0, 98);
        x.put(0, at(3, 3));
        x.put(1, at(3, 3));
        x.put(2, at(4, 5));
        due("both JOINTS on one CELL: all TURNINGS", count(x, 2, 0, 1, 4), 7);
        x.put(1, at(4, 5));
        due("no TURNING leaves that one", count(x, 2, 0, 1, 4), 0);
    }

    private static void partsStandRight() {
        told("all of it stand on TOLD CELLS of theirs, keep all MEASURES that are ON (with the JOINTS, too), and with ALONE stand"
            + " on no other THING's CELL of THE MAP, nor two on one.");
        HeardPlaces x = hung(at(3, 3), at(3, 4));
        due("(0, 1) by all that move it", x.flips(1), 6);
        x.box(1, 0, 0, 7, 3);
        due("not by TURNING 4, nor where its BOX ends", x.flips(1), 6);
        x.box(1, 0, 0, 7, 2);
        due("one CELL is left", x.flips(1), 2);
        x.wall(at(3, 2), true);
        due("a WALL there", x.flips(1), 0);
        x.box(1, 0, 0, 7, 7);
        due("a WALL there", x.flips(1), 4);
        x.measure(3, 0, 1, 2, 0);
        due("a SIDE to keep", x.flips(1), 2);
        x.thing(0, 0);
        x.put(2, at(2, 3));
        due("another THING's CELL", x.flips(1), 2);
        x.alone(true);
        due("with ALONE", x.flips(1), 0);
        x.put(2, at(3, 4));
        due("what it leaves does not count", x.flips(1), 2);
        x.put(2, -9);
        due("one that has no CELL does not count", x.flips(1), 2);
        x.measure(1, 1, 2, 0, 0);
        x.put(2, at(3, 4));
        due("two of the PART on one", x.flips(1), 0);
        x.alone(false);
        due("without ALONE", x.flips(1), 2);
        HeardPlaces y = hung(at(3, 3), at(3, 3));
        y.thing(0, 0);
        y.measure(1, 1, 2, 0, 98);
        y.put(2, at(3, 4));
        due("one of two moves", y.flip(1, 0, 3), 6);
        y.alone(true);
        due("one that stays stands on the JOINT's", count(y, 1, 0, NONE, 6), 0);
        due("by itself the other moves", count(y, 1, 1, NONE, 4), 6);
    }

    private static void crowdedParts() {
        told("and with ALONE stand on no other THING's CELL of THE MAP, nor two on one.");
        // Three THINGS of a PART below an ANCHOR; each of them in turn finds its CELL taken.
        HeardPlaces x = hung(at(3, 3), at(3, 4));
        for (int t = 2; t < 4; t++) {
            x.thing(0, 0);
            x.measure(1, t - 1, t, 0, 98);
            x.put(t, at(3, 3 + t));
        }
        x.thing(0, 0);
        x.alone(true);
        due("all six", count(x, 1, 0, NONE, 14), 6);
        for (int step = 1; step < 4; step++) {
            x.put(4, at(3, 3 - step));
            due("TURNINGS 2 and 5 lead there", count(x, 1, 0, NONE, 14), 4);
            x.put(4, at(3 + step, 3));
            due("TURNINGS 3 and 6 lead there", count(x, 1, 0, NONE, 14), 4);
            x.put(4, at(3, 3 + step));
            due("none leads where all of it stood", count(x, 1, 0, NONE, 14), 6);
        }
        x.put(4, -9);
        x.put(3, at(3, 4));
        due("the first and the last on one", count(x, 1, 0, NONE, 14), 0);
        x.put(3, at(3, 5));
        due("the last two on one", count(x, 1, 0, NONE, 14), 0);
        x.alone(false);
        due("they may, without ALONE", count(x, 1, 0, NONE, 14), 6);
    }

    private static void flipsInOrder() {
        told("FLIPS are in order by JOINTS (one ahead of two; by the first one's number, then the second's, which is the"
            + " greater), then by the least THING of the PART, then by TURNING.");
        HeardPlaces x = fieldOf(3, 3);
        addThings(x, 4);
        x.measure(1, 3, 0, 0, 98);
        x.measure(1, 3, 1, 0, 98);
        x.measure(1, 2, 1, 0, 98);
        x.measure(1, 2, 0, 0, 98);
        int[] cells = {at(0, 0), at(2, 2), at(2, 0), at(0, 2)};
        for (int t = 0; t < 4; t++) {
            x.put(t, cells[t]);
        }
        int flips = x.flips(0);
        long ahead = -1;
        boolean two = false;
        for (int i = 0; i < flips; i++) {
            long second = x.flip(0, i, 1);
            long part = x.flip(0, i, 3);
            long key = (second == NONE ? 0 : 1 << 20) + (x.flip(0, i, 0) << 15) + (Math.max(0, second) << 10)
                + (Long.numberOfTrailingZeros(part) << 5) + x.flip(0, i, 2);
            due("flip " + i + " comes after the one ahead", key > ahead ? 1 : 0, 1);
            due("the second is the greater", second == NONE || second > x.flip(0, i, 0) ? 1 : 0, 1);
            ahead = key;
            two |= second != NONE;
        }
        due("some are about two", two ? 1 : 0, 1);
        due("about 0 and 1 over the line: each by itself", count(x, 0, 0, 1, 4) + count(x, 0, 0, 1, 8), 2);
        due("i", x.flip(0, flips, 0), UNKNOWN);
        due("i", x.flip(0, -1, 0), UNKNOWN);
        due("i", x.flipped(0, flips), UNKNOWN);
        due("i", x.flipped(0, -1), UNKNOWN);
        due("i", x.flipped(0, NONE), UNKNOWN);
    }

    // ---- 5 MOVERS, LIARS

    private static void threeMovers() {
        told("MOVERS, 3 ever: of n TICKS (2 .. 8) and a reach r (0 .. 98)");
        told("A MOVER: its number. OUTSIDE: n, r;");
        HeardPlaces x = rowOf(1, 0);
        for (int n : new int[] {MIN, 0, 1, 9, MAX}) {
            due("n " + n, x.mover(n, 0), OUTSIDE);
        }
        for (int r : new int[] {MIN, -1, 99, MAX}) {
            due("r " + r, x.mover(2, r), OUTSIDE);
        }
        due("nothing came", x.many(1) + x.many(2) + x.many(4), 0);
        due("the first", x.mover(2, 0), 0);
        x.keep(0);
        due("the second", x.mover(8, 98), 1);
        due("the third", x.mover(2, 98), 2);
        due("a fourth", x.mover(2, 0), FULL);
        due("OUTSIDE ahead of FULL", x.mover(2, 99), OUTSIDE);
        due("THINGS", x.many(1), 12);
        due("MEASURES", x.many(2), 9);
        x.back(0);
        due("as many as the IMAGE has", x.mover(3, 1), 1);
        x.field(2, 1);
        due("none at first", x.ways(0), LOST);
        due("from the first on again", x.mover(2, 1), 0);
    }

    private static void moversHaveRoom() {
        told("FULL: MOVERS, THINGS, MEASURES.");
        for (int n = 2; n <= 8; n++) {
            HeardPlaces x = rowOf(1, 25 - n);
            due("one THING too many", x.mover(n, 0), FULL);
            due("nothing came", x.many(1) + x.many(2) + x.many(4), 25 - n);
            HeardPlaces y = rowOf(1, 24 - n);
            due("just room for THINGS", y.mover(n, 0), 0);
            HeardPlaces z = rowOf(1, 2);
            for (int m = 0; m < 61 - n; m++) {
                z.measure(1, 0, 1, 0, 0);
            }
            due("just room for MEASURES", z.mover(n, 0), 0);
            due("sixty", z.many(2), 60);
            HeardPlaces w = rowOf(1, 2);
            for (int m = 0; m < 62 - n; m++) {
                w.measure(1, 0, 1, 0, 0);
            }
            due("one MEASURE too many", w.mover(n, 0), FULL);
            due("nothing came", w.many(1), 2);
            due("nothing came", w.many(2), 62 - n);
        }
    }

    private static void moversComeWithThings() {
        told("n THINGS come for it (one for each TICK, kind 0), and n - 1 MEASURES HEARS of reach r, each of one TICK and the"
            + " next one.");
        HeardPlaces x = fieldOf(8, 8);
        x.thing(1, 0);
        x.thing(0, 0);
        x.measure(2, 0, 1, 0, 0);
        due("mover", x.mover(8, 7), 0);
        for (int tick = 0; tick < 8; tick++) {
            int t = 2 + tick;
            due("the THING of a TICK", x.tick(0, tick), t);
            allDue("about " + t, new long[] {x.about(t, 0), x.about(t, 1), x.about(t, 4), x.about(t, 5), x.about(t, 6),
                x.about(t, 7), x.about(t, 8)}, 0, 64, tick == 0 || tick == 7 ? 1 : 2, NONE, 0, 0, tick);
        }
        for (int m = 1; m < 8; m++) {
            allDue("told " + m, new long[] {x.told(m, 0), x.told(m, 1), x.told(m, 2), x.told(m, 3), x.told(m, 4), x.told(m, 5)},
                1, m + 1, m + 2, 0, 7, 1);
        }
        due("no more THINGS", x.many(1), 10);
        due("no more MEASURES", x.many(2), 8);
        for (int t = 0; t < 2; t++) {
            due("no MOVER", x.about(t, 7), NONE);
            due("no TICK", x.about(t, 8), NONE);
        }
        due("no TICK ahead", x.tick(0, -1), UNKNOWN);
        due("no TICK after", x.tick(0, 8), UNKNOWN);
        due("one GROUP", x.group(2), 0x3fc);
    }

    private static void waysInOrder() {
        told("rows of CELLS, one for each TICK, of those that its THINGS have NARROWED, each at DISTANCE r at most from the one"
            + " ahead; in order by TICKS, by CELLS.");
        told("The CELL at a TICK of the n-th WAY. UNKNOWN: MOVER, TICK, n.");
        HeardPlaces x = rowOf(8, 0);
        x.mover(2, 4);
        x.box(0, 2, 0, 4, 0);
        long[][] due = {{2, 0}, {2, 1}, {2, 2}, {2, 3}, {2, 4}, {3, 1}, {3, 2}, {3, 3}, {3, 4}, {3, 5}, {4, 2}, {4, 3}, {4, 4},
            {4, 5}, {4, 6}};
        due("ways", x.ways(0), due.length);
        for (int n = 0; n < due.length; n++) {
            due("the first TICK of " + n, x.way(0, n, 0), due[n][0]);
            due("the second TICK of " + n, x.way(0, n, 1), due[n][1]);
        }
        due("none after them", x.way(0, due.length, 0), UNKNOWN);
        due("none ahead", x.way(0, -1, 0), UNKNOWN);
        due("far off", x.way(0, Long.MAX_VALUE, 0), UNKNOWN);
        due("far off", x.way(0, LOST, 1), UNKNOWN);
        due("no TICK", x.way(0, 0, 2), UNKNOWN);
        due("no TICK", x.way(0, 0, -1), UNKNOWN);
        due("no MOVER", x.way(1, 0, 0), UNKNOWN);
        due("no MOVER", x.ways(1), LOST);
        due("no MOVER", x.ways(-1), LOST);
        x.box(1, 6, 0, 7, 0);
        due("one", x.ways(0), 1);
        due("its first", x.way(0, 0, 0), 4);
        due("its second", x.way(0, 0, 1), 6);
        x.box(1, 7, 0, 7, 0);
        due("none", x.ways(0), 0);
        due("not even the first", x.way(0, 0, 0), UNKNOWN);
        HeardPlaces y = new HeardPlaces();
        for (int r : new int[] {0, 98}) {
            y.field(8, 8);
            y.mover(8, r);
            y.mover(2, r);
            due("eight TICKS", y.ways(0), r == 0 ? 64 : 1L << 48);
            due("two TICKS", y.ways(1), r == 0 ? 64 : 4096);
            due("the last", y.way(0, y.ways(0) - 1, 7), 63);
            due("the first", y.way(1, 0, 1), 0);
        }
        y.measure(0, 8, 9, 50, 98);
        due("by its reach, not by other MEASURES of two of it", y.ways(1) > 2000 ? 1 : 0, 1);
    }

    private static void reachHoldsOff() {
        told("How many WAYS a MOVER has. LOST: UNKNOWN.");
        HeardPlaces x = rowOf(4, 0);
        x.mover(2, 1);
        due("ways", x.ways(0), 10);
        x.turn(0, false);
        due("the reach is the MOVER's", x.ways(0), 10);
        x.box(0, 0, 0, 0, 0);
        due("NARROWED no more", x.about(1, 2), 4);
        due("of these", x.ways(0), 2);
        x.box(1, 3, 0, 3, 0);
        due("none", x.ways(0), 0);
        due("no quarrel", x.quarrel(), NONE);
        x.turn(0, true);
        due("a quarrel", x.quarrel(), 1);
        due("none", x.ways(0), 0);
    }

    private static void fewestLiars() {
        told("such that without all MEASURES of any of them there is no QUARREL: the FEWEST (0, 1 or 2 THINGS): all sets of that"
            + " many.");
        told("LIARS: how many THINGS are in one of the FEWEST sets (what 0), how many such sets (1).");
        // THING 0 stands on CELL 0 by its BOX; each further one says that it does not.
        for (int liars = 0; liars <= 3; liars++) {
            HeardPlaces x = rowOf(2, 1 + liars);
            x.box(0, 0, 0, 0, 0);
            x.trust(0, true);
            for (int t = 1; t <= liars; t++) {
                x.box(t, 0, 0, 0, 0);
                x.measure(2, t, 0, 0, 0);
                x.measure(1, t, 0, 0, 98);
            }
            due(liars + " lie", x.liars(0), liars < 3 ? liars : NONE);
            due("sets of " + liars, x.liars(1), liars < 3 ? 1 : NONE);
            for (int t = 0; t <= liars; t++) {
                due("lies", x.lies(t), liars == 3 ? NONE : t == 0 ? 0 : 2);
            }
            due("what", x.liars(-1), OUTSIDE);
            due("what", x.liars(2), OUTSIDE);
            due("no such", x.lies(liars + 1), UNKNOWN);
            due("no such", x.lies(-1), UNKNOWN);
            x.trust(0, false);
            due("one that all quarrel with", x.liars(0), Math.min(1, liars));
            due("sets", x.liars(1), liars == 1 ? 2 : 1);
            due("that one", x.lies(0), liars == 0 ? 0 : liars == 1 ? 1 : 2);
        }
    }

    private static void pairsOfLiars() {
        told("A THING is LYING, if it is in all of them, DOUBTFUL, if in some.");
        told("Whether a THING is LYING (2), DOUBTFUL (1), neither (0). UNKNOWN; NONE: as liars().");
        // 0 quarrels with 1, 2 with 3, and 4 with none: any of the first two with any of the others.
        HeardPlaces x = rowOf(1, 5);
        x.measure(2, 0, 1, 0, 0);
        x.measure(2, 3, 2, 0, 0);
        x.measure(1, 4, 0, 0, 0);
        due("two", x.liars(0), 2);
        due("sets", x.liars(1), 4);
        for (int t = 0; t < 5; t++) {
            due("doubtful", x.lies(t), t < 4 ? 1 : 0);
        }
        x.trust(1, true);
        due("sets", x.liars(1), 2);
        allDue("lies", new long[] {x.lies(0), x.lies(1), x.lies(2), x.lies(3), x.lies(4)}, 2, 0, 1, 1, 0);
        x.trust(0, true);
        due("neither of the first two may be", x.liars(0), NONE);
        due("none", x.lies(4), NONE);
        x.turn(0, false);
        due("one", x.liars(0), 1);
        allDue("lies", new long[] {x.lies(0), x.lies(1), x.lies(2), x.lies(3), x.lies(4)}, 0, 0, 1, 1, 0);
        // 23 are each doubted by one: that one, or of the 24 no pair without it.
        HeardPlaces y = rowOf(1, 24);
        for (int t = 0; t < 23; t++) {
            y.measure(2, t, 23, 0, 0);
        }
        due("one", y.liars(0), 1);
        due("the last", y.lies(23), 2);
        y.trust(23, true);
        due("23 are too many", y.liars(0), NONE);
        for (int t = 2; t < 23; t++) {
            y.turn(t, false);
        }
        due("two", y.liars(0), 2);
        due("the second", y.lies(1), 2);
        due("the third", y.lies(2), 0);
    }

    private static void beaconsAreNoLiars() {
        told("a set of THINGS that are no BEACONS and not TRUSTED");
        told("2 BEACON, an ANCHOR that is never taken for a liar.");
        for (int kind = 0; kind < 3; kind++) {
            HeardPlaces x = fieldOf(1, 1);
            x.thing(kind, 0);
            x.thing(2, 0);
            x.measure(2, 0, 1, 0, 0);
            due("kind " + kind, x.liars(0), kind == 2 ? NONE : 1);
            due("kind " + kind, x.lies(0), kind == 2 ? NONE : 2);
            due("the BEACON", x.lies(1), kind == 2 ? NONE : 0);
            x.trust(0, true);
            due("trusted", x.liars(0), NONE);
            x.trust(0, false);
            due("no more", x.liars(0), kind == 2 ? NONE : 1);
            x.trust(1, true);
            x.trust(1, false);
            due("a BEACON that is not TRUSTED", x.liars(1), kind == 2 ? NONE : 1);
        }
    }

    private static void noLiarsForNoCells() {
        told("NONE: none of 0, 1, 2 THINGS does.");
        HeardPlaces x = rowOf(1, 2);
        due("nobody", x.liars(0), 0);
        due("the set of none", x.liars(1), 1);
        x.wall(0, true);
        due("no MEASURE brings CELLS", x.liars(0), NONE);
        due("no MEASURE brings CELLS", x.liars(1), NONE);
        due("lies", x.lies(0), NONE);
        due("no such", x.lies(2), UNKNOWN);
        HeardPlaces y = new HeardPlaces();
        due("no THINGS", y.liars(0), 0);
        due("no THINGS", y.liars(1), 1);
        due("no THINGS", y.lies(0), UNKNOWN);
    }

    // ---- 6 IMAGES, HOLDS, SHEETS

    private static void imagesOfEachSize() {
        told("IMAGES 0, 1 of the desk: FIELD, THINGS, MEASURES, MOVERS, TRUST, ALONE, MAP as they are when kept.");
        told("The desk is kept as an IMAGE: 1. UNKNOWN.");
        HeardPlaces x = fieldOf(5, 2);
        for (int k : new int[] {-1, 0, 1, 2}) {
            due("nothing was kept yet", x.back(k), k == 0 || k == 1 ? STATE : UNKNOWN);
        }
        due("keep", x.keep(0), 1);
        due("the other", x.back(1), STATE);
        x.field(2, 5);
        due("keep", x.keep(1), 1);
        due("keep", x.keep(-1), UNKNOWN);
        due("keep", x.keep(2), UNKNOWN);
        for (int times = 0; times < 3; times++) {
            due("back", x.back(0), 1);
            due("wide", x.put(0, 4), UNKNOWN);
            x.thing(0, 0);
            due("wide", x.put(0, 4), NONE);
            due("not high", x.put(0, at(0, 2)), UNKNOWN);
            due("its last CELL", x.put(0, at(4, 1)), 4);
            due("back", x.back(1), 1);
            due("no THING", x.many(1), 0);
            x.thing(0, 0);
            due("not wide", x.put(0, 2), UNKNOWN);
            due("high", x.put(0, at(1, 4)), NONE);
        }
        due("kept anew", x.keep(0), 1);
        due("back", x.back(1), 1);
        due("back", x.back(0), 1);
        due("its MAP", x.about(0, 5), at(1, 4));
        x.back(1);
        due("only that one was kept anew", x.many(1), 0);
    }

    private static void imagesOfAFullDesk() {
        told("The desk becomes as it was kept: 1. UNKNOWN; STATE: nothing was kept so.");
        HeardPlaces x = new HeardPlaces();
        due("keep nothing", x.keep(0), 1);
        x.mover(8, 1);
        x.mover(8, 2);
        x.mover(7, 3);
        x.thing(1, 63);
        for (int m = 20; m < 60; m++) {
            x.measure(1, m % 23, 23, 0, 98);
        }
        x.turn(59, false);
        x.trust(23, true);
        x.put(23, 62);
        x.box(22, 1, 2, 3, 4);
        x.wall(0, true);
        x.alone(true);
        x.keep(1);
        long ways = x.ways(2);
        for (int times = 0; times < 2; times++) {
            due("back to nothing", x.back(0), 1);
            for (int what = 0; what < 10; what++) {
                due("many(" + what + ")", x.many(what), what == 0 ? 64 : 0);
            }
            due("ways", x.ways(0), LOST);
            due("back to all", x.back(1), 1);
            allDue("many", new long[] {x.many(0), x.many(1), x.many(2), x.many(3), x.many(4), x.many(7), x.many(9)},
                63, 24, 60, 59, 3, 1, 1);
            due("THING", x.about(23, 0), 1);
            due("its TRUST", x.about(23, 6), 1);
            due("THE MAP", x.about(23, 5), 62);
            due("BOX", x.about(22, 1), 9);
            due("MEASURE", x.told(59, 1), 59 % 23);
            due("OFF", x.told(59, 5), 0);
            due("ways", x.ways(2), ways);
            due("the last TICK", x.tick(2, 6), 22);
            due("none after it", x.tick(2, 7), UNKNOWN);
            due("full", x.thing(0, 0), FULL);
            due("full", x.measure(1, 0, 1, 0, 0), FULL);
            due("full", x.mover(2, 0), FULL);
            x.trust(23, false);
            x.put(23, NONE);
            x.box(22, 0, 0, 0, 0);
            x.turn(59, true);
            x.wall(1, true);
            x.alone(false);
        }
    }

    private static void imagesOfTwoFullDesks() {
        told("IMAGES 0, 1 of the desk: FIELD, THINGS, MEASURES, MOVERS, TRUST, ALONE, MAP as they are when kept.");
        HeardPlaces x = new HeardPlaces();
        for (int k = 0; k < 2; k++) {
            x.field(8 - k, 7 + k);
            for (int t = 0; t < 24; t++) {
                x.thing(k, t % 7);
                if (k == 0) {
                    x.box(t, 0, 0, 0, t % 7);
                }
                x.put(t, at(k, t % 7));
            }
            for (int m = 0; m < 60; m++) {
                x.measure(1 + k, m % 23, 23, 0, 98 - 98 * k);
            }
            x.keep(k);
        }
        for (int k = 1; k >= 0; k--) {
            due("back", x.back(k), 1);
            due("its FIELD", x.many(0), 56);
            due("its last CELL", x.wall(at(7 - k, 6 + k), false), 0);
            due("none of the other's", x.wall(at(6 + k, 7 - k), false), UNKNOWN);
            for (int t = 0; t < 24; t++) {
                due("kind", x.about(t, 0), k);
                due("TOLD", x.about(t, 1), k == 1 ? 1 : t % 7 + 1);
                due("THE MAP", x.about(t, 5), at(k, t % 7));
            }
            for (int m = 0; m < 60; m++) {
                due("measure", x.told(m, 0), 1 + k);
                due("its q", x.told(m, 4), 98 - 98 * k);
            }
        }
    }

    private static void lastOfSixty() {
        told("2 MEASURES, 60 at most, each numbered by how many there are ahead of it");
        // Of the first 59 all are OFF, so that the last one alone counts, for all that hangs on MEASURES.
        int[][] numbers = {{1, 1}, {0, 1}, {0, 1}, {0, 0}, {1, 1}};
        // Of 81 pairs of CELLS 24 are beside one another, 9 on one CELL; to the right 14 lie by one, 9 by two.
        int[] placings = {24, 33, 48, 23, 24};
        // Of the middle: the four beside it, these and itself, the corners, the right column.
        long[] cells = {0x20502, 0x20702, 0x50005, 0x40404, 0x20502};
        for (int kind = 0; kind < 5; kind++) {
            HeardPlaces x = fieldOf(3, 3);
            addThings(x, 2);
            for (int m = 0; m < 59; m++) {
                x.measure(2, 1, 0, 0, 98);
                x.turn(m, false);
            }
            due("the last", x.measure(kind, 0, 1, numbers[kind][0], numbers[kind][1]), 59);
            due("its kind", x.told(59, 0), kind);
            due("about", x.about(0, 4), 1);
            due("a GROUP", x.group(1), 3);
            due("placings", x.placings(0), placings[kind]);
            x.box(0, 1, 1, 1, 1);
            due("NARROWED", x.cells(1), cells[kind]);
            due("keeps", x.keeps(59, at(1, 1), at(2, 1)), kind == 2 ? 0 : 1);
            x.put(0, at(1, 1));
            x.put(1, kind == 2 ? at(2, 2) : at(2, 1));
            due("right", x.check(), 1);
            due("flips about 0", count(x, 0, 0, NONE, 2), kind == 3 ? 0 : 6);
            x.put(1, kind == 2 ? at(2, 1) : at(2, 0));
            due("right by a SIDE alone", x.check(), kind == 3 ? 1 : -79);
            x.box(1, 1, 1, 1, 1);
            due("a quarrel", x.quarrel(), kind == 1 ? NONE : 1);
            due("it is of that one", x.told(59, 6), kind == 1 ? 0 : 1);
            due("liars", x.liars(0), kind == 1 ? 0 : 1);
        }
    }

    private static void lastOfTwentyFour() {
        told("JOINTS (one ahead of two; by the first one's number, then the second's, which is the greater)");
        // The last three THINGS of 24, with two MEASURES alone: 23 hangs between 21 and 22.
        HeardPlaces x = new HeardPlaces();
        addThings(x, 24);
        x.measure(1, 23, 21, 0, 98);
        x.measure(1, 22, 23, 0, 98);
        x.put(21, at(2, 2));
        x.put(22, at(2, 5));
        x.put(23, at(1, 4));
        due("about both", count(x, 23, 21, 22, 1 << 23), 1);
        due("by TURNING 4", x.flip(23, x.flips(23) - 1, 2), 4);
        // A MEASURE of the PART's THING ahead of the JOINT's: (dx, dy) is from it.
        x.measure(3, 23, 21, 0, 0);
        due("a SIDE that it does not keep", x.check(), -22);
        x.put(23, at(0, 4));
        due("a SIDE that it keeps", x.check(), 1);
        due("not on the other side", count(x, 23, 21, 22, 1 << 23), 0);
        x.turn(2, false);
        due("OFF it does not count", count(x, 23, 21, 22, 1 << 23), 1);
        due("flipped", x.flipped(23, x.flips(23) - 1), 1);
        due("over the line", x.about(23, 5), at(4, 4));
    }

    private static void placingsAfterBack() {
        told("The desk becomes as it was kept");
        HeardPlaces x = rowOf(3, 2);
        x.measure(0, 0, 1, 1, 1);
        due("placings", x.placings(0), 4);
        x.keep(0);
        x.box(0, 1, 0, 1, 0);
        due("placings", x.placings(0), 2);
        due("liars", x.liars(0), 0);
        x.measure(1, 0, 1, 0, 0);
        due("quarrel", x.quarrel(), 2);
        x.back(0);
        due("no quarrel", x.quarrel(), NONE);
        due("placings", x.placings(0), 4);
        due("could", x.could(0), 3);
        due("liars", x.liars(0), 0);
        x.field(3, 1);
        x.mover(2, 0);
        due("ways", x.ways(0), 3);
        x.keep(1);
        x.field(3, 1);
        x.mover(2, 98);
        due("ways", x.ways(0), 9);
        x.back(1);
        due("ways", x.ways(0), 3);
    }

    private static void holdsOfEach() {
        told("HOLDS 0 .. 7: each has nothing (at first), or a THING, a MEASURE as it is.");
        told("A HOLD has a THING (what 0), a MEASURE (1): 1. UNKNOWN: HOLD; OUTSIDE: what; UNKNOWN: there is no such.");
        HeardPlaces x = rowOf(2, 23);
        x.thing(2, 1);
        for (int m = 0; m < 60; m++) {
            x.measure(4, 22, 23, 0, 1);
        }
        for (int k = 0; k < 8; k++) {
            due("nothing at first", x.as(k, 0), NULL);
            due("nothing to loosen", x.loose(k), 0);
        }
        for (int k = 0; k < 8; k++) {
            due("hold", x.hold(k, k % 2, k % 2 == 0 ? 23 : 59), 1);
            due("how many", x.many(8), k + 1);
        }
        for (int k = 0; k < 8; k++) {
            due("as", x.as(k, k % 2 == 0 ? 2 : 8), k % 2 == 0 ? 23 : 59);
        }
        for (int k : new int[] {MIN, -1, 8, MAX}) {
            due("no such HOLD", x.hold(k, 0, 0), UNKNOWN);
            due("no such HOLD", x.loose(k), UNKNOWN);
            due("no such HOLD", x.as(k, 0), UNKNOWN);
            due("no such HOLD", x.tell(k, 0), UNKNOWN);
            due("no such HOLD", x.greet(k, 0), UNKNOWN);
        }
        due("no such THING", x.hold(0, 0, 24), UNKNOWN);
        due("no such THING", x.hold(0, 0, -1), UNKNOWN);
        due("no such MEASURE", x.hold(0, 1, 60), UNKNOWN);
        due("no such MEASURE", x.hold(0, 1, -1), UNKNOWN);
        due("what", x.hold(0, 2, 0), OUTSIDE);
        due("what", x.hold(0, -1, 0), OUTSIDE);
        due("how many", x.many(8), 8);
        due("as it was", x.as(0, 0), 23);
        for (int k = 0; k < 8; k++) {
            due("loose", x.loose(k), 1);
            due("nothing", x.loose(k), 0);
            due("how many", x.many(8), 7 - k);
        }
    }

    private static void heldAsItWas() {
        told("(What was taken off by back() or field() stays in its HOLD as it was.)");
        HeardPlaces x = new HeardPlaces();
        x.keep(0);
        addThings(x, 20);
        x.thing(2, 63);
        x.measure(1, 19, 20, 0, 98);
        x.measure(0, 20, 18, 7, 9);
        x.hold(0, 0, 20);
        x.hold(1, 1, 1);
        for (int by = 0; by < 3; by++) {
            if (by == 1) {
                x.back(0);
            } else if (by == 2) {
                x.field(1, 1);
            }
            due("its number", x.as(0, 2), 20);
            due("what it tells", x.tell(0, 0), 60 + 63 + 60);
            due("its greeting", x.greet(0, 0), 520);
            due("its number", x.as(1, 4), 1);
            due("what it tells", x.tell(1, 1), 38 + 16);
            due("how many", x.many(8), 2);
        }
        for (int t = 0; t < 21; t++) {
            x.thing(1, 0);
        }
        x.measure(2, 0, 1, 0, 0);
        x.measure(2, 0, 1, 0, 0);
        due("another of that number", x.as(0, 2), 20);
        due("another of that number", x.as(1, 6), CAST);
        due("THINGS that are there can be held anew", x.hold(0, 0, 20), 1);
        due("that one", x.as(0, 2), CAST);
        due("an ANCHOR", x.tell(0, 0), 60);
    }

    private static void sheetsOfEachLength() {
        told("SHEETS 0 .. 3 have nothing (at first), or a row of 0 .. 64 numbers (0 at first) of a LANE");
        told("A SHEET gets a new row: 1.");
        HeardPlaces x = new HeardPlaces();
        for (int k = 0; k < 4; k++) {
            due("nothing at first", x.lose(k), 0);
            due("nothing at first", x.cell(k, 0, k), LOST);
            due("the fault", x.fault(), 1);
        }
        for (int n : new int[] {0, 1, 63, 64}) {
            for (int lane = 0; lane < 4; lane++) {
                due("sheet", x.sheet(3 - lane, lane, n), 1);
                due("its last", x.cell(3 - lane, n - 1, lane), n == 0 ? LOST : 0);
                due("none after it", x.cell(3 - lane, n, lane), LOST);
                due("the fault", x.fault(), 3);
                due("none after it", x.lay(3 - lane, n, 1), INDEX);
                due("its last", x.lay(3 - lane, n - 1, 1), n == 0 ? INDEX : 1);
                due("none ahead", x.lay(3 - lane, -1, 1), INDEX);
                due("a new row", x.sheet(3 - lane, lane, n), 1);
                due("0 again", x.cell(3 - lane, n - 1, lane), n == 0 ? LOST : 0);
            }
        }
        for (int k : new int[] {MIN, -1, 4, MAX}) {
            due("no such", x.sheet(k, 0, 0), UNKNOWN);
            due("no such", x.lose(k), UNKNOWN);
            due("no such", x.lay(k, 0, 0), UNKNOWN);
            due("no such", x.cell(k, 0, 0), LOST);
            due("no such", x.copy(k, 0, 0, 0, 0), UNKNOWN);
            due("no such", x.copy(0, 0, k, 0, 0), UNKNOWN);
            due("no such", x.plan(k, 0, 0), UNKNOWN);
            due("no such", x.measures(k, 0, 0, 0), UNKNOWN);
            due("that is no FAULT", x.fault(), 0);
        }
        told("OUTSIDE: lane, n above 64; SIZE.");
        for (int lane : new int[] {MIN, -1, 4, MAX}) {
            due("no such lane", x.sheet(0, lane, -1), OUTSIDE);
        }
        due("n 65", x.sheet(0, 3, 65), OUTSIDE);
        due("n below 0", x.sheet(0, 3, -1), SIZE);
        due("its row is as it was", x.lay(0, 63, 1), 1);
    }

    private static void lanesCut() {
        told("0 bytes, 1 shorts, 2 ints, 3 longs; what comes to a cell of it is cut to its LANE (with its sign).");
        HeardPlaces x = new HeardPlaces();
        for (int lane = 0; lane < 4; lane++) {
            int bits = 8 << lane;
            long most = (1L << bits - 1) - 1;
            long least = -1L << bits - 1;
            long[] laid = {most, least, most + 1, least - 1, -1, 0, most + 2, least - 2};
            long[] kept = {most, least, least, most, -1, 0, least + 1, most - 1};
            due("sheet", x.sheet(lane, lane, 8), 1);
            for (int i = 0; i < 8; i++) {
                due("lay", x.lay(lane, i, laid[i]), 1);
                due("cut to " + bits + " bits", x.cell(lane, i, lane), kept[i]);
            }
        }
        lay(x, 0, 0, 256, 255, 128, -129, Long.MAX_VALUE, LOST);
        long[] bytes = {0, -1, -128, 127, -1, 0};
        for (int i = 0; i < 6; i++) {
            due("a byte", x.cell(0, i, 0), bytes[i]);
        }
    }

    private static void laneThatCutsAMeasure() {
        told("MEASURES by cells of a SHEET from i on, taken as a row of a LANE, five each (as of measure(); cut to"
            + " ints)");
        HeardPlaces x = new HeardPlaces();
        addThings(x, 3);
        long high = 1L << 32;
        lay(x, 0, 3, 9, high, 2 + 5 * high, LOST + 1, 3 - high, 7 + high, 1);
        due("one", x.measures(0, 3, 1, 1), 1);
        allDue("told", new long[] {x.told(0, 0), x.told(0, 1), x.told(0, 2), x.told(0, 3), x.told(0, 4)}, 0, 2, 1, 3, 7);
        lay(x, 1, 0, 1, 0, 1, 0, 98, 1, 0, 1, 0, 99);
        due("the second has a q that is not told", x.measures(1, 0, 0, 2), 1);
        due("no FAULT", x.fault(), 0);
        lay(x, 2, 1, 4, 1, 2, 20, 98, 3, 1, 2, 3, -1, 2, 1, 2, -1, 98);
        due("three", x.measures(2, 1, 0, 3), 3);
        due("and one that is not there", x.measures(2, 1, 0, 4), 3);
        due("the FAULT", x.fault(), 3);
        due("how many", x.many(2), 1 + 1 + 3 + 3);
        due("of n, none", x.measures(2, 1, 0, 0), 0);
        due("no FAULT", x.fault(), 0);
        for (int i : new int[] {MIN, -5, -1, 11, 15, 16, MAX}) {
            due("cells that are not there", x.measures(2, 1, i, 1), 0);
            due("the FAULT", x.fault(), 3);
        }
        due("the last that are there", x.measures(2, 1, 10, 1), 1);
        due("the FAULT of the next one", x.measures(2, 1, 10, 2), 1);
        due("the FAULT", x.fault(), 3);
        due("refused ahead of what is not there", x.measures(2, 1, 7, MAX), 0);
        due("no FAULT", x.fault(), 0);
        due("n below 0", x.measures(2, 1, MIN, -1), SIZE);
        due("how many", x.many(2), 10);
    }

    private static void copies() {
        told("n cells of a SHEET from i on go to another one (perhaps the same) from j on, as they were: n.");
        HeardPlaces x = new HeardPlaces();
        x.sheet(0, 3, 64);
        x.sheet(1, 3, 64);
        for (int i = 0; i < 64; i++) {
            x.lay(0, i, i + 1);
        }
        due("all", x.copy(0, 0, 1, 0, 64), 64);
        due("the first", x.cell(1, 0, 3), 1);
        due("the last", x.cell(1, 63, 3), 64);
        due("one too many", x.copy(0, 0, 1, 0, 65), INDEX);
        due("one too far", x.copy(0, 1, 1, 0, 64), INDEX);
        due("one too far", x.copy(0, 0, 1, 1, 64), INDEX);
        due("the last cell", x.copy(0, 63, 1, 0, 1), 1);
        due("it came", x.cell(1, 0, 3), 64);
        due("from beyond the last", x.copy(0, 64, 1, 0, 1), INDEX);
        due("none from there", x.copy(0, 64, 1, 64, 0), 0);
        due("none from further on", x.copy(0, 65, 1, 64, 0), INDEX);
        due("none to further on", x.copy(0, 64, 1, 65, 0), INDEX);
        due("on, over itself", x.copy(0, 0, 0, 1, 63), 63);
        for (int i = 0; i < 64; i++) {
            due("as they were", x.cell(0, i, 3), Math.max(1, i));
        }
        due("back, over itself", x.copy(0, 1, 0, 0, 63), 63);
        for (int i = 0; i < 64; i++) {
            due("as they were", x.cell(0, i, 3), Math.min(63, i + 1));
        }
        x.sheet(2, 3, 0);
        due("a row of none to itself", x.copy(2, 0, 2, 0, 0), 0);
        due("of none", x.copy(2, 0, 0, 0, 1), INDEX);
        due("to none", x.copy(0, 0, 2, 0, 1), INDEX);
        for (int n : new int[] {MIN, -1}) {
            due("n", x.copy(0, 0, 1, 0, n), INDEX);
            due("i", x.copy(0, n, 1, 0, 0), INDEX);
            due("j", x.copy(0, 0, 1, n, 0), INDEX);
        }
        due("the last fault", x.fault(), 3);
    }

    private static void trace() {
        told("leave their number in TRACE (an int that wraps, 0 at first, becomes 31 times it and the number) as they"
            + " begin");
        HeardPlaces x = new HeardPlaces();
        due("0 at first", x.trace(), 0);
        x.thing(2, 5);
        x.thing(0, 0);
        x.measure(4, 1, 0, 2, 3);
        x.hold(0, 0, 0);
        x.hold(1, 1, 0);
        x.hold(2, 0, 1);
        int trace = 0;
        for (int round = 0; round < 30; round++) {
            int[] tell = {3, 2, 1, 1, 8, 5, 4, 10, 9, 13, 12, 11, 1, 9};
            due("a BEACON tells", x.tell(0, 0), 5);
            due("STEPS tell", x.tell(1, 1), 12);
            due("a BEACON is greeted", x.greet(0, 0), 500);
            due("STEPS are weighed", x.greet(1, 1), 21);
            due("a THING tells", x.tell(2, 0), 3);
            due("a THING is greeted", x.greet(2, 0), 1);
            for (int body : tell) {
                trace = 31 * trace + body;
            }
            due("the trace", x.trace(), trace);
            due("refused", x.tell(0, 2), OUTSIDE);
            due("a FAULT", x.tell(0, 1), CAST);
            due("a FAULT", x.greet(3, 1), NULL);
            due("they leave nothing", x.trace(), trace);
        }
        x.field(1, 1);
        due("it stays", x.trace(), trace);
    }

    private static void faultOfTheLatest() {
        told("The FAULT of the latest call that names one: 0: it came to none, or was refused (0 ahead of any).");
        HeardPlaces x = fieldOf(2, 1);
        due("ahead of any", x.fault(), 0);
        x.thing(1, 0);
        x.thing(0, 0);
        x.measure(1, 0, 1, 0, 0);
        x.hold(0, 0, 0);
        x.hold(2, 1, 0);
        x.sheet(0, 2, 10);
        for (int call = 0; call < 18; call++) {
            due("a FAULT", x.sheet(0, 0, -1), SIZE);
            due("fault()", x.fault(), 4);
            due("call " + call + " comes to none or is refused", namingFaults(x, call) > -10 ? 1 : 0, 1);
            due("fault() after call " + call, x.fault(), 0);
        }
        due("a FAULT", x.as(0, 2), CAST);
        for (int call = 0; call < 39; call++) {
            namingNone(x, call);
            due("fault() after call " + call + " of those that name none", x.fault(), 2);
        }
    }

    private static long namingFaults(HeardPlaces x, int call) {
        switch (call) {
            case 0:
                return x.plan(0, 2, 0);
            case 1:
                return x.plan(4, 2, 0);
            case 2:
                return x.measures(0, 2, 0, 0);
            case 3:
                return x.measures(0, 4, 0, -1);
            case 4:
                return x.as(0, 1);
            case 5:
                return x.as(0, 9);
            case 6:
                return x.tell(0, 0);
            case 7:
                return x.tell(8, 1);
            case 8:
                return x.greet(2, 1);
            case 9:
                return x.greet(2, -1);
            case 10:
                return x.sheet(1, 1, 1);
            case 11:
                return x.sheet(1, 1, 65);
            case 12:
                return x.lay(0, 9, 0);
            case 13:
                return x.lay(9, 9, 0);
            case 14:
                return x.cell(0, 9, 2);
            case 15:
                return x.cell(0, 9, 9) == LOST ? 0 : INDEX;
            case 16:
                return x.copy(0, 0, 0, 5, 5);
            default:
                return x.copy(0, 0, 4, 5, 5);
        }
    }

    private static void namingNone(HeardPlaces x, int call) {
        Runnable[] calls = {() -> x.wall(1, true), () -> x.wall(9, true), () -> x.thing(0, 0), () -> x.thing(9, 0),
            () -> x.box(1, 0, 0, 7, 7), () -> x.box(9, 0, 0, 0, 0), () -> x.about(0, 0), () -> x.can(0, 0, 0), () -> x.cells(0),
            () -> x.hops(0, 0, 0), () -> x.measure(1, 0, 1, 0, 0), () -> x.turn(0, false), () -> x.told(0, 0),
            () -> x.keeps(0, 0, 0), () -> x.quarrel(), () -> x.group(0), () -> x.alone(true), () -> x.placings(0),
            () -> x.trials(), () -> x.nth(0, 0), () -> x.sure(0), () -> x.could(0), () -> x.together(0, 0, 0, 0),
            () -> x.ask(0, 0), () -> x.between(0, 0), () -> x.put(0, 0), () -> x.take(0, 0), () -> x.check(), () -> x.flips(0),
            () -> x.flip(0, 0, 0), () -> x.mover(2, 0), () -> x.ways(0), () -> x.trust(0, true), () -> x.liars(0),
            () -> x.keep(0), () -> x.back(0), () -> x.loose(7), () -> x.lose(3), () -> x.many(0)};
        calls[call].run();
    }

    private static void heldKinds() {
        told("0 a THING, 1 an ANCHOR, 2 a BEACON, 3 a MEASURE, 4 a FAR, 5 a HEARS, 6 a DEAF, 7 a SIDE, 8 a STEPS one: its number"
            + " (as it was held).");
        HeardPlaces x = new HeardPlaces();
        for (int kind = 0; kind < 3; kind++) {
            x.thing(kind, 0);
        }
        x.measure(0, 0, 2, 1, 1);
        for (int kind = 4; kind >= 0; kind--) {
            x.measure(kind, 0, 1, 1, 1);
        }
        int[] numbers = {0, 1, 2, 5, 4, 3, 2, 1};
        String[] taken = {"0", "01", "012", "34", "345", "3456", "37", "3458"};
        for (int k = 0; k < 8; k++) {
            due("hold", x.hold(k, k < 3 ? 0 : 1, numbers[k]), 1);
            for (int kind = 0; kind < 9; kind++) {
                boolean is = taken[k].indexOf('0' + kind) >= 0;
                due("HOLD " + k + " as " + kind, x.as(k, kind), is ? numbers[k] : CAST);
            }
            due("kind", x.as(k, -1), OUTSIDE);
            due("kind", x.as(k, 9), OUTSIDE);
        }
    }

    private static void manyOfEach() {
        told("0 FREE CELLS, 1 THINGS, 2 MEASURES, 3 of them ON, 4 MOVERS, 5 THINGS that have just one CELL NARROWED, 6 the sum of"
            + " all CELLS NARROWED, 7 THINGS that THE MAP has, 8 HOLDS that have something, 9 whether ALONE is on (1, 0).");
        HeardPlaces x = new HeardPlaces();
        x.mover(8, 98);
        x.mover(8, 98);
        x.mover(8, 98);
        due("all CELLS of all THINGS", x.many(6), 24 * 64);
        due("none has just one", x.many(5), 0);
        for (int t = 0; t < 24; t++) {
            x.box(t, 7, 7, 7, 7);
            x.put(t, 0);
        }
        due("each has just one", x.many(5), 24);
        due("one of each", x.many(6), 24);
        due("THE MAP has all", x.many(7), 24);
        x.box(0, 6, 7, 7, 7);
        due("two are not just one", x.many(5), 23);
        x.wall(63, true);
        due("none is not just one", x.many(5), 0);
        due("no CELL of a quarrel", x.many(6), 0);
        for (int what : new int[] {MIN, -1, 10, MAX}) {
            due("what " + what, x.many(what), OUTSIDE);
        }
    }

    // ---- the lines of the promises

    private static void wallsOfEachCell() {
        told("A CELL becomes a WALL, or FREE: 1; 0: it was so. UNKNOWN; STATE: an ANCHOR stands there.");
        HeardPlaces x = fieldOf(3, 3);
        x.thing(1, at(0, 0));
        x.thing(2, at(2, 2));
        x.thing(0, at(1, 1));
        x.put(0, at(1, 1));
        for (int c = -2; c < 66; c++) {
            boolean is = c >= 0 && c < 24 && c % 8 < 3;
            boolean anchor = c == at(0, 0) || c == at(2, 2);
            due("FREE already " + c, x.wall(c, false), !is ? UNKNOWN : anchor ? STATE : 0);
            due("a WALL " + c, x.wall(c, true), !is ? UNKNOWN : anchor ? STATE : 1);
            due("a WALL already " + c, x.wall(c, true), !is ? UNKNOWN : anchor ? STATE : 0);
        }
        due("the ANCHORS' CELLS are left", x.many(0), 2);
        due("FREE again", x.wall(at(1, 1), false), 1);
        due("how many", x.many(0), 3);
        for (int c : new int[] {MIN, -64, MAX, 1 << 6, 1 << 16}) {
            due("no CELL", x.wall(c, true), UNKNOWN);
        }
        x.field(3, 3);
        due("no ANCHOR any more", x.wall(at(0, 0), true), 1);
    }

    private static void plansByRows() {
        told("All CELLS by w h cells of a SHEET from i on, taken as a row of a LANE, row by row: 0 FREE, any other a WALL: how"
            + " many are FREE. UNKNOWN; OUTSIDE: lane; CAST (nothing is no CAST); NULL; INDEX; then STATE: an ANCHOR would"
            + " stand on a WALL.");
        HeardPlaces x = fieldOf(3, 2);
        lay(x, 0, 3, 9, 0, 1L << 32, LOST, 0, -1, 0, 9);
        due("row by row", x.plan(0, 3, 1), 3);
        for (int c = 0; c < 6; c++) {
            boolean wall = c == 1 || c == 2 || c == 4;
            due("wall " + c, x.wall(at(c % 3, c / 3), wall), 0);
        }
        due("from the first on", x.plan(0, 3, 0), 2);
        due("to the last", x.plan(0, 3, 2), 2);
        due("its last is a WALL", x.wall(at(2, 1), true), 0);
        due("beyond the last", x.plan(0, 3, 3), INDEX);
        due("ahead of the first", x.plan(0, 3, -1), INDEX);
        due("as it was", x.many(0), 2);
        x.thing(2, at(2, 0));
        due("an ANCHOR on a WALL", x.plan(0, 3, 1), STATE);
        due("that is no FAULT", x.fault(), 0);
        due("as it was", x.many(0), 2);
        due("the CELLS, too", x.hops(at(2, 0), at(1, 1), 2), 1);
        due("INDEX ahead of STATE", x.plan(0, 3, 4), INDEX);
        due("CAST ahead of INDEX", x.plan(0, 2, 4), CAST);
        due("NULL ahead of INDEX", x.plan(1, 2, 4), NULL);
        due("OUTSIDE ahead of NULL", x.plan(1, 4, 4), OUTSIDE);
        due("UNKNOWN ahead of OUTSIDE", x.plan(4, 4, 4), UNKNOWN);
        due("where it may", x.plan(0, 3, 2), 2);
        HeardPlaces y = fieldOf(1, 1);
        y.sheet(0, 0, 1);
        y.lay(0, 0, 256);
        due("cut to 0 when it was laid", y.plan(0, 0, 0), 1);
        y.lay(0, 0, 1);
        due("one WALL", y.plan(0, 0, 0), 0);
        due("a CELL of it", y.hops(0, 0, 1), STATE);
    }

    private static void thingsOnCells() {
        told("A THING (kind 0; cell is not looked at), an ANCHOR, a BEACON on a CELL: its number. OUTSIDE: kind; UNKNOWN: cell;"
            + " STATE: it is a WALL; FULL.");
        HeardPlaces x = fieldOf(2, 3);
        x.wall(at(1, 2), true);
        int t = 0;
        for (int cell : new int[] {MIN, -1, 0, at(1, 2), 2, 64, MAX}) {
            due("of kind 0", x.thing(0, cell), t++);
        }
        for (int kind = 1; kind < 3; kind++) {
            for (int c = -1; c <= 64; c++) {
                boolean is = c >= 0 && c < 24 && c % 8 < 2;
                if (!is || c == at(1, 2)) {
                    due("kind " + kind + " on " + c, x.thing(kind, c), is ? STATE : UNKNOWN);
                    due("kind 3 on " + c, x.thing(3, c), OUTSIDE);
                } else if (c != at(1, 1)) {
                    due("kind " + kind + " on " + c, x.thing(kind, c), t++);
                    due("its CELL", x.cells(t - 1), 1L << c);
                }
            }
        }
        due("how many", x.many(1), t);
    }

    private static void aboutEach() {
        told("Of a THING: 0 kind, 1 how many TOLD CELLS, 2 how many CELLS NARROWED, 3 the first CELL NARROWED (NONE), 4 how many"
            + " MEASURES that are ON, 5 THE MAP's CELL (NONE), 6 whether it is TRUSTED (1, 0), 7 its MOVER (NONE), 8 its TICK"
            + " (NONE). UNKNOWN; OUTSIDE.");
        HeardPlaces x = new HeardPlaces();
        x.thing(0, 0);
        x.thing(1, 63);
        allDue("at first", new long[] {x.about(0, 0), x.about(0, 1), x.about(0, 2), x.about(0, 3), x.about(0, 4), x.about(0, 5),
            x.about(0, 6), x.about(0, 7), x.about(0, 8)}, 0, 64, 64, 0, 0, NONE, 0, NONE, NONE);
        allDue("an ANCHOR", new long[] {x.about(1, 0), x.about(1, 1), x.about(1, 2), x.about(1, 3)}, 1, 1, 1, 63);
        for (int m = 0; m < 57; m++) {
            x.measure(1, m % 2, 1 - m % 2, 0, 0);
        }
        due("all of them", x.about(0, 4), 57);
        x.turn(0, false);
        x.turn(56, false);
        due("those that are ON, of the first", x.about(0, 4), 55);
        due("of the second", x.about(1, 4), 55);
        due("the last CELL", x.about(0, 3), 63);
        x.box(0, 0, 0, 7, 6);
        due("TOLD", x.about(0, 1), 56);
        due("NARROWED", x.about(0, 2), 0);
        due("the first of none", x.about(0, 3), NONE);
        due("the ANCHOR's TOLD CELL", x.about(1, 1), 1);
        due("the ANCHOR's first of none", x.about(1, 3), NONE);
        x.mover(2, 0);
        x.mover(3, 0);
        due("the last MOVER", x.about(6, 7), 1);
        due("the last TICK", x.about(6, 8), 2);
        due("the first TICK", x.about(4, 8), 0);
        for (int what : new int[] {MIN, -1, 9, MAX}) {
            due("what", x.about(0, what), OUTSIDE);
            due("THING ahead of what", x.about(7, what), UNKNOWN);
        }
    }

    private static void canAndCells() {
        told("Whether a CELL is one of a THING's: TOLD (what 0), NARROWED (1): 1, 0. UNKNOWN: THING, cell; OUTSIDE.");
        HeardPlaces x = new HeardPlaces();
        x.thing(0, 0);
        x.thing(1, 63);
        x.measure(2, 0, 1, 0, 97);
        for (int c = 0; c < 64; c++) {
            due("TOLD", x.can(0, c, 0), 1);
            due("NARROWED", x.can(0, c, 1), c == 0 ? 1 : 0);
            due("an ANCHOR's", x.can(1, c, 0), c == 63 ? 1 : 0);
        }
        due("cell ahead of what", x.can(0, 64, 2), UNKNOWN);
        due("cell", x.can(0, -1, 0), UNKNOWN);
        due("THING ahead of what", x.can(2, 0, 2), UNKNOWN);
        due("what", x.can(0, 0, 2), OUTSIDE);
        due("what", x.can(0, 0, -1), OUTSIDE);
        told("CELLS of a THING NARROWED, as bits (bit 8 y + x). 0 for UNKNOWN, too.");
        due("the last bit", x.cells(1), LOST);
        due("the first bit", x.cells(0), 1);
        for (int t : new int[] {MIN, -1, 2, MAX}) {
            due("no such", x.cells(t), 0);
        }
        x.turn(0, false);
        due("all bits", x.cells(0), -1);
        told("GROUP of a THING, as bits of THINGS. 0 for UNKNOWN.");
        for (int t : new int[] {MIN, -1, 2, MAX}) {
            due("no such", x.group(t), 0);
        }
        due("the first", x.group(0), 1);
    }

    private static void toldAsTheyCount() {
        told("3, 4 p, q as they count (of HEARS, DEAF p is 0, of SIDE q is 0)");
        HeardPlaces x = rowOf(2, 2);
        int[][] said = {{0, 3, 98}, {1, 77, 98}, {2, -5, 0}, {3, 3, 77}, {4, 20, 98}, {1, MIN, 0}, {2, MAX, 98}, {3, 0, MIN}};
        int[][] count = {{3, 98}, {0, 98}, {0, 0}, {3, 0}, {20, 98}, {0, 0}, {0, 98}, {0, 0}};
        for (int m = 0; m < 8; m++) {
            due("measure", x.measure(said[m][0], 1, 0, said[m][1], said[m][2]), m);
            allDue("told " + m, new long[] {x.told(m, 0), x.told(m, 1), x.told(m, 2), x.told(m, 3), x.told(m, 4), x.told(m, 5)},
                said[m][0], 1, 0, count[m][0], count[m][1], 1);
        }
        due("what", x.told(7, 7), OUTSIDE);
        due("what", x.told(7, -1), OUTSIDE);
        due("MEASURE ahead of what", x.told(8, 7), UNKNOWN);
        due("MEASURE", x.told(-1, 0), UNKNOWN);
        told("A MEASURE is ON, or OFF: 1; 0: it was so. UNKNOWN.");
        for (int m = -1; m <= 8; m++) {
            boolean is = m >= 0 && m < 8;
            due("ON already", x.turn(m, true), is ? 0 : UNKNOWN);
            due("OFF", x.turn(m, false), is ? 1 : UNKNOWN);
            due("OFF already", x.turn(m, false), is ? 0 : UNKNOWN);
            due("how many are ON", x.many(3), is ? 7 - m : m < 0 ? 8 : 0);
        }
        told("Whether a MEASURE is KEPT by CELLS of its first and its second THING: 1, 0.");
        due("by the first and the second", x.keeps(7, 0, 1), 1);
        due("not by the second and the first", x.keeps(7, 1, 0), 0);
        due("cell", x.keeps(7, 2, 0), UNKNOWN);
        due("cell", x.keeps(7, 0, 8), UNKNOWN);
        due("measure", x.keeps(8, 0, 0), UNKNOWN);
    }

    private static void quarrelsAreCounted() {
        told("Whether there is a QUARREL: how many MEASURES are in THE LEAST one (0: an empty one); NONE: there is"
            + " none.");
        // ANCHORS at both ends of a row and THINGS between, each beside the next one: too few to reach over.
        HeardPlaces x = rowOf(8, 6);
        x.thing(1, 0);
        x.thing(1, 7);
        x.measure(1, 6, 0, 0, 1);
        for (int t = 1; t < 6; t++) {
            x.measure(1, t - 1, t, 0, 1);
        }
        due("no QUARREL yet", x.quarrel(), NONE);
        x.measure(1, 5, 7, 0, 1);
        due("just far enough", x.quarrel(), NONE);
        x.turn(3, false);
        x.measure(1, 2, 3, 0, 0);
        due("all seven that are ON", x.quarrel(), 7);
        for (int m = 0; m < 8; m++) {
            due("each of them", x.told(m, 6), m == 3 ? 0 : 1);
        }
        due("no PLACING", x.placings(0), 0);
        x.box(0, 8 - 1, 1, 7, 1);
        due("an empty one", x.quarrel(), 0);
    }

    private static void switches() {
        told("ALONE is on, or off: 1; 0: it was so.");
        HeardPlaces x = rowOf(1, 1);
        due("off already", x.alone(false), 0);
        due("on", x.alone(true), 1);
        due("on already", x.alone(true), 0);
        due("many", x.many(9), 1);
        due("off", x.alone(false), 1);
        due("many", x.many(9), 0);
        told("A THING is TRUSTED, or not: 1; 0: it was so. UNKNOWN.");
        HeardPlaces y = rowOf(1, 24);
        for (int t = -1; t <= 24; t++) {
            boolean is = t >= 0 && t < 24;
            due("not yet", y.trust(t, false), is ? 0 : UNKNOWN);
            due("TRUSTED", y.trust(t, true), is ? 1 : UNKNOWN);
            due("already", y.trust(t, true), is ? 0 : UNKNOWN);
            due("about", y.about(t, 6), is ? 1 : UNKNOWN);
        }
        due("no more", y.trust(0, false), 1);
        due("about", y.about(0, 6), 0);
        due("the others stay", y.about(23, 6), 1);
        told("A HOLD has nothing: 1; 0: it had nothing. UNKNOWN.");
        y.hold(7, 0, 0);
        due("it had something", y.loose(7), 1);
        due("it had nothing", y.loose(7), 0);
        due("no such", y.loose(8), UNKNOWN);
        told("A SHEET has nothing: 1; 0: it had nothing. UNKNOWN.");
        y.sheet(3, 0, 0);
        due("it had a row of none", y.lose(3), 1);
        due("it had nothing", y.lose(3), 0);
        due("no such", y.lose(4), UNKNOWN);
    }

    private static void ofOneThingItself() {
        told("(of one THING itself: if they are one, and it has it)");
        HeardPlaces x = rowOf(3, 2);
        x.measure(3, 0, 1, 0, 0);
        int[] firsts = {1, 1, 0};
        for (int c = 0; c < 3; c++) {
            for (int d = 0; d < 3; d++) {
                due("itself " + c + ", " + d, x.together(0, c, 0, d), c == d ? firsts[c] : 0);
                due("the other " + c + ", " + d, x.together(1, c, 1, d), c == d ? firsts[2 - c] : 0);
                due("both " + c + ", " + d, x.together(0, c, 1, d), c < d ? 1 : 0);
            }
        }
        told("UNKNOWN: THINGS, cells; SPENT (t's GROUP ahead of u's).");
        due("t", x.together(2, 0, 0, 0), UNKNOWN);
        due("u", x.together(0, 0, 2, 0), UNKNOWN);
        due("cell", x.together(0, 3, 0, 0), UNKNOWN);
        due("other", x.together(0, 0, 0, 8), UNKNOWN);
    }

    private static void mapOfEach() {
        told("THE MAP has a CELL of the FIELD (a WALL, too) for a THING (-9: none any more): what it had (NONE)."
            + " UNKNOWN.");
        HeardPlaces x = fieldOf(3, 2);
        x.thing(0, 0);
        x.thing(1, at(1, 1));
        x.wall(at(2, 1), true);
        int had = NONE;
        for (int c = -11; c <= 65; c++) {
            boolean is = c >= 0 && c < 16 && c % 8 < 3 || c == -9;
            due("put " + c, x.put(0, c), is ? had : UNKNOWN);
            had = is ? c : had;
            due("THE MAP's CELL", x.about(0, 5), had);
        }
        due("a WALL, too", had, at(2, 1));
        due("that is not RIGHT", x.check(), -100);
        due("an ANCHOR off its CELL", x.put(1, 0), NONE);
        due("it stays where it is known", x.cells(1), 1L << at(1, 1));
        due("no such", x.put(2, 0), UNKNOWN);
        due("no such", x.put(-1, -9), UNKNOWN);
        told("THE MAP has the n-th PLACING of the GROUP of a THING for its THINGS: how many. UNKNOWN: THING, n; SPENT.");
        due("all FREE CELLS", x.placings(0), 5);
        due("the last", x.take(0, 4), 1);
        due("its CELL", x.about(0, 5), at(1, 1));
        due("beyond", x.take(0, 5), UNKNOWN);
        due("below", x.take(0, -1), UNKNOWN);
        due("the ANCHOR's is as it was", x.about(1, 5), 0);
        due("the ANCHOR", x.take(1, 0), 1);
        due("its CELL", x.about(1, 5), at(1, 1));
        due("beyond", x.take(1, 1), UNKNOWN);
        due("no such", x.take(2, 0), UNKNOWN);
        x.alone(true);
        due("another PLACING is the last", x.take(0, 4), UNKNOWN);
        due("of none", x.take(0, 3), 1);
        due("its CELL", x.about(0, 5), at(0, 1));
    }

    private static void flippedMoves() {
        told("THE MAP is changed by the i-th FLIP (i from 0 on): how many THINGS moved. UNKNOWN, STATE: as flip().");
        // Eight THINGS hang on an ANCHOR in a row: those on the line that the TURNING leaves do not move.
        HeardPlaces x = new HeardPlaces();
        x.thing(1, at(3, 3));
        x.put(0, at(3, 3));
        for (int t = 1; t < 9; t++) {
            x.thing(0, 0);
            x.measure(1, t - 1, t, 0, 98);
            x.put(t, at(3, t < 5 ? 3 + t : 3));
        }
        x.put(6, at(4, 3));
        // The fourth below goes to the right by 3 and 6, beyond the FIELD by others; 4 moves the one beside alone.
        due("flips of all", count(x, 1, 0, NONE, 0x1fe), 3);
        due("the turning", x.flip(1, 1, 2), 4);
        due("one of eight moved", x.flipped(1, 1), 1);
        due("that one", x.about(6, 5), at(2, 3));
        x.put(4, at(3, 6));
        due("now there is room", count(x, 1, 0, NONE, 0x1fe), 7);
        due("half a turn", x.flip(1, 1, 2), 2);
        due("all that are not on the JOINT", x.flipped(1, 1), 5);
        due("the first of them", x.about(1, 5), at(3, 2));
        due("the one beside", x.about(6, 5), at(4, 3));
        due("those on the JOINT", x.about(8, 5), at(3, 3));
        due("the JOINT", x.about(0, 5), at(3, 3));
        int flips = x.flips(1);
        due("i", x.flipped(1, flips), UNKNOWN);
        due("i", x.flipped(1, -1), UNKNOWN);
        due("no such", x.flipped(9, 0), UNKNOWN);
        x.put(8, -9);
        due("STATE ahead of i", x.flipped(1, -1), STATE);
        due("nothing moved", x.about(6, 5), at(4, 3));
    }

    private static void ticksOfEach() {
        told("The THING of a MOVER's TICK. UNKNOWN.");
        HeardPlaces x = rowOf(1, 1);
        x.mover(2, 0);
        x.mover(8, 0);
        x.thing(0, 0);
        x.mover(3, 0);
        int[] ticks = {2, 8, 3};
        int[] first = {1, 3, 12};
        for (int m = -1; m <= 3; m++) {
            for (int t = -1; t <= 9; t++) {
                boolean is = m >= 0 && m < 3 && t >= 0 && t < ticks[m];
                due("MOVER " + m + ", TICK " + t, x.tick(m, t), is ? first[m] + t : UNKNOWN);
                due("its way", x.way(m, 0, t), is ? 0 : UNKNOWN);
                due("its second way", x.way(m, 1, t), UNKNOWN);
            }
        }
        for (int wild : new int[] {MIN, MAX}) {
            due("MOVER", x.tick(wild, 0), UNKNOWN);
            due("TICK", x.tick(0, wild), UNKNOWN);
            due("MOVER", x.ways(wild), LOST);
        }
    }

    private static void tellsBelowNought() {
        told("(It answers below 0 for FAULTS; TELLING may be below 0, too: fault() tells.)");
        HeardPlaces x = new HeardPlaces();
        addThings(x, 24);
        x.measure(1, 23, 22, 7, 98);
        x.measure(1, 0, 1, 7, 0);
        x.measure(2, 22, 23, 7, 98);
        x.hold(0, 1, 0);
        x.hold(1, 1, 1);
        x.hold(2, 1, 2);
        due("a FAULT", x.tell(0, 0), CAST);
        due("fault()", x.fault(), 2);
        due("HEARS", x.tell(0, 1), 45 + 98 - 1000);
        due("fault()", x.fault(), 0);
        due("a FAULT", x.tell(3, 1), NULL);
        due("fault()", x.fault(), 1);
        due("HEARS", x.tell(1, 1), 1 - 1000);
        due("fault()", x.fault(), 0);
        due("DEAF", x.tell(2, 1), 45 + 98 - 1000 + 45);
        due("fault()", x.fault(), 0);
    }

    private static void cellsOfSheets() {
        told("Cell i of what a SHEET has, taken as a row of a LANE. LOST: UNKNOWN, OUTSIDE: lane; FAULTS CAST (nothing is no"
            + " CAST), NULL, INDEX.");
        HeardPlaces x = new HeardPlaces();
        lay(x, 3, 1, 5, -7, 9);
        int[][] calls = {{3, 0, 1}, {3, 2, 1}, {3, 3, 1}, {3, -1, 1}, {3, 0, 0}, {3, -1, 2}, {2, -1, 1}, {2, 0, 4}, {3, 0, -1},
            {4, 0, 4}, {-1, 0, 1}};
        long[] due = {5, 9, LOST, LOST, LOST, LOST, LOST, LOST, LOST, LOST, LOST};
        int[] faults = {0, 0, 3, 3, 2, 2, 1, 0, 0, 0, 0};
        for (int i = 0; i < calls.length; i++) {
            x.as(0, 0);
            due("cell " + Arrays.toString(calls[i]), x.cell(calls[i][0], calls[i][1], calls[i][2]), due[i]);
            due("fault() then", x.fault(), faults[i]);
        }
        told("Cell i of a SHEET becomes v: 1. UNKNOWN; NULL; INDEX.");
        due("the first", x.lay(3, 0, 1), 1);
        due("the last", x.lay(3, 2, 2), 1);
        due("beyond", x.lay(3, 3, 3), INDEX);
        due("ahead", x.lay(3, -1, 3), INDEX);
        due("NULL ahead of INDEX", x.lay(2, -1, 3), NULL);
        due("UNKNOWN ahead of NULL", x.lay(4, -1, 3), UNKNOWN);
        allDue("cells", new long[] {x.cell(3, 0, 1), x.cell(3, 1, 1), x.cell(3, 2, 1)}, 1, -7, 2);
    }

    private static void copyFaults() {
        told("UNKNOWN; FAULTS NULL (the first, the other), CAST (unlike LANES), INDEX: i, j, n below 0 or beyond.");
        HeardPlaces x = new HeardPlaces();
        lay(x, 0, 1, 1, 2, 3);
        lay(x, 1, 1, 7, 8);
        lay(x, 2, 2, 9);
        due("UNKNOWN ahead of NULL", x.copy(3, 0, 4, 0, 0), UNKNOWN);
        due("UNKNOWN ahead of NULL", x.copy(-1, 0, 3, 0, 0), UNKNOWN);
        due("the first is nothing", x.copy(3, -1, 0, 0, 0), NULL);
        due("the other is nothing", x.copy(0, -1, 3, 0, 0), NULL);
        due("both are nothing", x.copy(3, 0, 3, 0, 0), NULL);
        due("CAST ahead of INDEX", x.copy(0, -1, 2, 0, 0), CAST);
        int[][] calls = {{0, 0, 2, 2}, {1, 0, 2, 2}, {2, 0, 1, 1}, {3, 0, 0, 0}, {0, 2, 0, 0}, {2, 0, 2, INDEX}, {0, 1, 2, INDEX},
            {0, 2, 1, INDEX}, {3, 0, 1, INDEX}, {4, 0, 0, INDEX}, {0, 3, 0, INDEX}, {0, 0, 3, INDEX}, {-1, 0, 1, INDEX},
            {0, -1, 1, INDEX}, {0, 0, -1, INDEX}, {MAX, 0, 1, INDEX}, {0, MAX, 1, INDEX}, {1, 1, MAX, INDEX},
            {MIN, 0, MIN, INDEX}};
        for (int[] c : calls) {
            x.lay(1, 0, 7);
            x.lay(1, 1, 8);
            due("copy " + Arrays.toString(c), x.copy(0, c[0], 1, c[1], c[2]), c[3]);
            due("fault() then", x.fault(), c[3] == INDEX ? 3 : 0);
            boolean none = c[3] == INDEX || c[2] == 0;
            due("the first cell", x.cell(1, 0, 1), none ? 7 : c[0] + 1);
            due("the second cell", x.cell(1, 1, 1), none || c[2] == 1 ? 8 : c[0] + 2);
        }
    }

    private static void newObject() {
        told("The FIELD is 8 by 8, all FREE; no THINGS, MEASURES, MOVERS, IMAGES, SHEETS; HOLDS, THE MAP have nothing.");
        HeardPlaces x = new HeardPlaces();
        due("FREE", x.many(0), 64);
        for (int what = 1; what < 10; what++) {
            due("many " + what, x.many(what), 0);
        }
        due("THING", x.about(0, 0), UNKNOWN);
        due("MEASURE", x.told(0, 0), UNKNOWN);
        due("MOVER", x.tick(0, 0), UNKNOWN);
        due("quarrel", x.quarrel(), NONE);
        due("liars", x.liars(0), 0);
        due("right", x.check(), 1);
        due("trials", x.trials(), 0);
        due("fault", x.fault(), 0);
        due("trace", x.trace(), 0);
        for (int k = 0; k < 8; k++) {
            due("IMAGE", x.back(k), k < 2 ? STATE : UNKNOWN);
            due("HOLD", x.loose(k), 0);
            due("SHEET", x.lose(k), k < 4 ? 0 : UNKNOWN);
            due("HOLD", x.tell(k, 0), NULL);
            due("SHEET", x.lay(k, 0, 0), k < 4 ? NULL : UNKNOWN);
        }
        HeardPlaces other = new HeardPlaces();
        other.thing(0, 0);
        other.wall(5, true);
        other.keep(0);
        due("another object has its own", x.many(1), 0);
        due("another object has its own", x.many(0), 64);
        due("another object has its own", x.back(0), STATE);
    }

    private static void placingsKeepAll() {
        told("PLACINGS of a GROUP: all ways to put its THINGS each on one of its CELLS (as NARROWED) such that all MEASURES that"
            + " are ON of two of them are KEPT");
        told("How many PLACINGS the GROUP of a THING has. UNKNOWN; SPENT.");
        told("How many CELLS a THING has over all PLACINGS of its GROUP. UNKNOWN; SPENT.");
        // Three that are deaf to one another have no PLACING on two CELLS, though NARROWING leaves both to each.
        HeardPlaces x = rowOf(2, 3);
        x.measure(2, 0, 1, 0, 0);
        x.measure(2, 2, 1, 0, 0);
        due("of two", x.placings(0), 2);
        due("its CELLS", x.could(1), 2);
        x.measure(2, 0, 2, 0, 0);
        due("of three", x.placings(0), 0);
        due("its CELLS", x.could(1), 0);
        due("as NARROWED", x.about(1, 2), 2);
        due("no QUARREL", x.quarrel(), NONE);
        due("not the first", x.nth(0, 0), UNKNOWN);
        due("not to be taken", x.take(0, 0), UNKNOWN);
        due("of 0 PLACINGS", x.ask(2, 1), 0);
        due("the first", x.ask(2, 0), 0);
        due("of 0 PLACINGS", x.between(2, 2), 0);
        due("the first two", x.between(2, 0), 0);
        due("the first two", x.between(2, 1), 1);
        due("not SURE", x.sure(1), NONE);
        due("not together", x.together(0, 0, 1, 1), 0);
        x.turn(0, false);
        due("OFF it need not be KEPT", x.placings(0), 2);
        due("its CELLS", x.could(1), 2);
        due("together", x.together(0, 0, 1, 0), 1);
        due("not together", x.together(0, 0, 2, 0), 0);
    }

    private static void oneByOneTillRefused() {
        told("Then one by one: where cells are not there (INDEX, told by fault()), or one would be refused, it ends; those ahead"
            + " came.");
        long[][] refused = {{1, 2, 0, 0, 9}, {1, 0, -1, 0, 9}, {5, 0, 1, 0, 9}, {1, 1, 1, 0, 9}, {1, 0, 1, 0, 99},
            {0, 0, 1, 9, 8}};
        for (long[] one : refused) {
            HeardPlaces x = rowOf(2, 2);
            lay(x, 0, 3, 1, 0, 1, 0, 9, 2, 1, 0, 0, 98, one[0], one[1], one[2], one[3], one[4], 1, 0, 1, 0, 9);
            due("two of four", x.measures(0, 3, 0, 4), 2);
            due("no FAULT", x.fault(), 0);
            due("those ahead came", x.many(2), 2);
            due("the second", x.told(1, 0), 2);
            due("the refused one is the last", x.measures(0, 3, 5, 2), 1);
            due("it is the first", x.measures(0, 3, 10, 2), 0);
            due("it is not asked for", x.measures(0, 3, 5, 1), 1);
            due("the one after it", x.measures(0, 3, 15, 1), 1);
            due("one more that is not there", x.measures(0, 3, 15, 2), 1);
            due("INDEX", x.fault(), 3);
            due("how many", x.many(2), 6);
        }
        HeardPlaces x = rowOf(2, 2);
        for (int m = 0; m < 58; m++) {
            x.measure(1, 0, 1, 0, 9);
        }
        lay(x, 0, 0, 1, 0, 1, 0, 9, 1, 0, 1, 0, 9, 1, 0, 1, 0, 9);
        due("two till it is FULL", x.measures(0, 0, 0, 3), 2);
        due("no FAULT", x.fault(), 0);
        due("none more", x.measures(0, 0, 0, 1), 0);
        due("no FAULT", x.fault(), 0);
        due("cells that are not there, though it is FULL", x.measures(0, 0, 15, 1), 0);
        due("INDEX", x.fault(), 3);
        HeardPlaces none = new HeardPlaces();
        none.sheet(0, 0, 64);
        due("no THINGS", none.measures(0, 0, 0, 1), 0);
        due("no FAULT", none.fault(), 0);
    }

    private static void flipTellsOf() {
        told("Of the i-th FLIP: 0 the first JOINT, 1 the second (NONE), 2 the TURNING, 3 THINGS of the PART as bits.");
        HeardPlaces x = new HeardPlaces();
        addThings(x, 24);
        for (int t = 1; t < 24; t++) {
            x.measure(1, t - 1, t, 0, 98);
        }
        for (int t = 0; t < 24; t++) {
            x.put(t, at(3, 3));
        }
        x.put(23, at(3, 4));
        // The last one alone moves, about each of the others; about itself all others do, where they may.
        due("flips", x.flips(0), 23 * 6 + 6);
        int n = 0;
        for (int joint = 0; joint < 23; joint++, n += 6) {
            allDue("flip " + n, new long[] {x.flip(5, n, 0), x.flip(5, n, 1), x.flip(5, n, 2), x.flip(5, n, 3)},
                joint, NONE, 1, 0xffffff & -2 << joint);
            due("the last of that JOINT", x.flip(23, n + 5, 2), 7);
        }
        allDue("the last", new long[] {x.flip(0, n + 5, 0), x.flip(0, n + 5, 1), x.flip(0, n + 5, 2), x.flip(0, n + 5, 3)},
            23, NONE, 7, 0x7fffff);
        due("none after it", x.flip(0, n + 6, 0), UNKNOWN);
        due("how many move", x.flipped(0, n), 23);
        due("the JOINT does not", x.about(23, 5), at(3, 4));
    }

    /** Of a HOLD: what it tells, is greeted or weighed; and the numbers that are left in a TRACE of 0. */
    private static void bodyDue(String words, int kind, int[] numbers, int greeting, int want, int... trace) {
        told(words);
        HeardPlaces x = new HeardPlaces();
        boolean isThing = numbers.length == 0;
        addThings(x, isThing ? 23 : 24);
        int number = isThing ? x.thing(kind, 63) : x.measure(kind, 23, 22, numbers[0], numbers[1]);
        due("hold", x.hold(7, isThing ? 0 : 1, number), 1);
        due("it", greeting == 1 ? x.greet(7, isThing ? 0 : 1) : x.tell(7, isThing ? 0 : 1), want);
        due("no FAULT", x.fault(), 0);
        int due = 0;
        for (int one : trace) {
            due = 31 * due + one;
        }
        due("the TRACE", x.trace(), due);
        due("of another kind", greeting == 1 ? x.greet(7, isThing ? 1 : 0) : x.tell(7, isThing ? 1 : 0), CAST);
        due("the TRACE then", x.trace(), due);
    }

    private static void bodies() {
        int[] thing = {};
        bodyDue("THING (1): 3 times its number.", 0, thing, 0, 69, 1);
        bodyDue("ANCHOR (2): what THING's gives, and its CELL.", 1, thing, 0, 69 + 63, 2, 1);
        bodyDue("BEACON (3): what ANCHOR's gives, and what THING's gives (ANCHOR's left out).", 2, thing, 0,
            132 + 69, 3, 2, 1, 1);
        bodyDue("MEASURE (4): the sum of its THINGS' numbers.", 3, new int[] {3, 98}, 0, 45, 4);
        bodyDue("FAR (5): what MEASURE's gives, and p and q.", 0, new int[] {97, 98}, 0, 45 + 195, 5, 4);
        bodyDue("HEARS (6): what FAR's gives, less 1000.", 1, new int[] {97, 98}, 0, 45 + 98 - 1000, 6, 5, 4);
        bodyDue("DEAF (7): what HEARS' gives, and what MEASURE's gives (HEARS' and FAR's left out).", 2, new int[] {97, 98}, 0,
            143 - 1000 + 45, 7, 6, 5, 4, 4);
        bodyDue("SIDE none of its own: MEASURE's.", 3, new int[] {0, 0}, 0, 45, 4);
        bodyDue("STEPS (8): what FAR's gives (HEARS' left out), twice.", 4, new int[] {20, 98}, 0, 2 * (45 + 118), 8, 5, 4);
        told("TELLING of what a HOLD has, taken as a THING (what 0), a MEASURE (1). UNKNOWN; OUTSIDE; CAST; NULL.");
        bodyDue("GREETED by a lent body of THINGS (9): its number;", 0, thing, 1, 23, 9);
        bodyDue("GREETED by a lent body of THINGS (9): its number;", 1, thing, 1, 23, 9);
        bodyDue("BEACONS have their own (10): 500, and what the lent one gives.", 2, thing, 1, 523, 10, 9);
        bodyDue("WEIGHED by a lent body of MEASURES (11): 10 and its kind;", 0, new int[] {0, 98}, 1, 10, 11);
        bodyDue("WEIGHED by a lent body of MEASURES (11): 10 and its kind;", 3, new int[] {0, 98}, 1, 13, 11);
        bodyDue("HEARS has its own (12): 7;", 1, new int[] {0, 98}, 1, 7, 12);
        bodyDue("DEAF HEARS';", 2, new int[] {0, 98}, 1, 7, 12);
        bodyDue("STEPS its own (13): what HEARS' gives, and what the lent one gives.", 4, new int[] {0, 98}, 1,
            7 + 14, 13, 12, 11);
        told("How it is GREETED (what 0, taken as a THING), WEIGHED (1, as a MEASURE). UNKNOWN; OUTSIDE; CAST; NULL.");
        HeardPlaces x = new HeardPlaces();
        for (int what = 0; what < 2; what++) {
            due("nothing told", x.tell(0, what), NULL);
            due("nothing greeted", x.greet(7, what), NULL);
            due("no such HOLD", x.tell(8, what), UNKNOWN);
            due("no such HOLD", x.greet(-1, what), UNKNOWN);
        }
        for (int what : new int[] {MIN, -1, 2, MAX}) {
            due("what", x.tell(0, what), OUTSIDE);
            due("what", x.greet(0, what), OUTSIDE);
            due("UNKNOWN ahead of it", x.greet(8, what), UNKNOWN);
        }
        due("nothing left", x.trace(), 0);
    }

    public static void main(String[] arguments) throws Exception {
        document = Files.readString(Path.of("../shared/DOC.md")).replaceAll("\\s+", " ");
        Method[] tests = Arrays.stream(EdgesTest.class.getDeclaredMethods())
            .filter(m -> Modifier.isStatic(m.getModifiers()) && m.getParameterCount() == 0 && m.getReturnType() == void.class)
            .sorted(Comparator.comparing(Method::getName)).toArray(Method[]::new);
        for (Method test : tests) {
            test.invoke(null);
        }
        System.out.println(wrong == 0 ? sentences + " sentences, " + answers + " answers are as due"
            : wrong + " answers are not as due");
        System.exit(wrong == 0 ? 0 : 1);
    }
}
