/**
 * Holds HeardPlaces against PlainPlaces, call by call, over many runs of calls that a counted-on row of numbers
 * picks: ordinary ones, edges and wrong ones.
 */
public final class AgreeTest {
    private static final int CALLS = 512;

    private long seed;
    private HeardPlaces x;
    private PlainPlaces plain;
    private String call;
    private long got, want;
    // What a run leans to: how large its numbers are, which calls it makes most.
    private int leaning;
    private int[] hidden;

    private AgreeTest(long seed) {
        this.seed = seed;
    }

    private int below(int n) {
        seed = seed * 6364136223846793005L + 1442695040888963407L;
        return (int) ((seed >>> 33) % n);
    }

    private boolean chance(int n) {
        return below(n) == 0;
    }

    private boolean coin() {
        return chance(2);
    }

    /** Mostly from..to, now and then just beyond, seldom far off. */
    private int near(int from, int to) {
        if (chance(40)) {
            int[] odd = {from - 1, to + 1, -9, -1, Integer.MIN_VALUE, Integer.MAX_VALUE, 64, 1 << 30};
            return odd[below(odd.length)];
        }
        return from + below(to - from + 1);
    }

    private int thing() {
        return near(0, Math.max(0, plain.desk.things.size() - 1));
    }

    private int measure() {
        return near(0, Math.max(0, plain.desk.measures.size() - 1));
    }

    private int mover() {
        return near(0, Math.max(0, plain.desk.movers.size() - 1));
    }

    private int cell() {
        if (chance(40)) {
            return near(0, 63);
        }
        return 8 * below(plain.desk.h) + below(plain.desk.w);
    }

    private int lane() {
        return near(0, 3);
    }

    private void make(int what) {
        int a, b, c, d, e;
        switch (what) {
            case 0:
                a = near(1, 8);
                b = near(1, 8);
                say("field", a, b);
                answer(x.field(a, b), plain.field(a, b));
                break;
            case 1:
                a = cell();
                boolean is = leaning == 0 ? coin() : chance(4);
                say("wall", a, is ? 1 : 0);
                answer(x.wall(a, is), plain.wall(a, is));
                break;
            case 2:
                a = near(0, 3);
                b = lane();
                c = near(0, 2);
                say("plan", a, b, c);
                answer(x.plan(a, b, c), plain.plan(a, b, c));
                break;
            case 3:
                a = near(0, 2);
                b = cell();
                say("thing", a, b);
                answer(x.thing(a, b), plain.thing(a, b));
                break;
            case 4:
                a = thing();
                b = near(0, 7);
                c = near(0, 7);
                d = chance(8) ? near(0, 7) : Math.min(7, b + below(4));
                e = chance(8) ? near(0, 7) : Math.min(7, c + below(4));
                say("box", a, b, c, d, e);
                answer(x.box(a, b, c, d, e), plain.box(a, b, c, d, e));
                break;
            case 5:
                a = thing();
                b = near(0, 8);
                say("about", a, b);
                answer(x.about(a, b), plain.about(a, b));
                break;
            case 6:
                a = thing();
                b = cell();
                c = near(0, 1);
                say("can", a, b, c);
                answer(x.can(a, b, c), plain.can(a, b, c));
                break;
            case 7:
                a = thing();
                say("cells", a);
                answer(x.cells(a), plain.cells(a));
                break;
            case 8:
                a = cell();
                b = cell();
                c = chance(3) ? near(0, 98) : near(0, 5);
                say("hops", a, b, c);
                answer(x.hops(a, b, c), plain.hops(a, b, c));
                break;
            case 9:
                makeMeasure();
                break;
            case 10:
                a = near(0, 3);
                b = lane();
                c = near(0, 8);
                d = near(0, 6);
                say("measures", a, b, c, d);
                answer(x.measures(a, b, c, d), plain.measures(a, b, c, d));
                break;
            case 11:
                a = measure();
                is = leaning == 3 ? chance(5) : coin();
                say("turn", a, is ? 1 : 0);
                answer(x.turn(a, is), plain.turn(a, is));
                break;
            case 12:
                a = measure();
                b = near(0, 6);
                say("told", a, b);
                answer(x.told(a, b), plain.told(a, b));
                break;
            case 13:
                a = measure();
                b = cell();
                c = cell();
                say("keeps", a, b, c);
                answer(x.keeps(a, b, c), plain.keeps(a, b, c));
                break;
            case 14:
                say("quarrel");
                answer(x.quarrel(), plain.quarrel());
                break;
            case 15:
                a = thing();
                say("group", a);
                answer(x.group(a), plain.group(a));
                break;
            case 16:
                is = coin();
                say("alone", is ? 1 : 0);
                answer(x.alone(is), plain.alone(is));
                break;
            case 17:
                a = thing();
                say("placings", a);
                answer(x.placings(a), plain.placings(a));
                say("trials");
                answer(x.trials(), plain.trials());
                break;
            case 18:
                a = thing();
                b = chance(3) ? near(0, 1000) : near(0, 6);
                say("nth", a, b);
                answer(x.nth(a, b), plain.nth(a, b));
                break;
            case 19:
                a = thing();
                say("sure", a);
                answer(x.sure(a), plain.sure(a));
                break;
            case 20:
                a = thing();
                say("could", a);
                answer(x.could(a), plain.could(a));
                break;
            case 21:
                a = thing();
                b = cell();
                c = thing();
                d = cell();
                say("together", a, b, c, d);
                answer(x.together(a, b, c, d), plain.together(a, b, c, d));
                break;
            case 22:
                a = thing();
                b = near(0, 1);
                say("ask", a, b);
                answer(x.ask(a, b), plain.ask(a, b));
                break;
            case 23:
                a = thing();
                b = near(0, 2);
                say("between", a, b);
                answer(x.between(a, b), plain.between(a, b));
                break;
            case 24:
                a = thing();
                b = chance(10) ? -9 : cell();
                say("put", a, b);
                answer(x.put(a, b), plain.put(a, b));
                break;
            case 25:
                a = thing();
                b = chance(3) ? near(0, 1000) : near(0, 6);
                say("take", a, b);
                answer(x.take(a, b), plain.take(a, b));
                break;
            case 26:
                say("check");
                answer(x.check(), plain.check());
                break;
            case 27:
                a = thing();
                say("flips", a);
                answer(x.flips(a), plain.flips(a));
                break;
            case 28:
                a = thing();
                b = near(0, 9);
                c = near(0, 3);
                say("flip", a, b, c);
                answer(x.flip(a, b, c), plain.flip(a, b, c));
                break;
            case 29:
                a = thing();
                b = near(0, 9);
                say("flipped", a, b);
                answer(x.flipped(a, b), plain.flipped(a, b));
                break;
            default:
                makeLater(what);
        }
    }

    private void measure(int kind, int a, int b, int p, int q) {
        say("measure", kind, a, b, p, q);
        answer(x.measure(kind, a, b, p, q), plain.measure(kind, a, b, p, q));
    }

    private int freeCell() {
        for (int tries = 0; tries < 200; tries++) {
            int cell = 8 * below(plain.desk.h) + below(plain.desk.w);
            if (!plain.desk.walls[cell]) {
                return cell;
            }
        }
        return 0;
    }

    /** A MEASURE that holds for the hidden CELLS, but now and then. */
    private void makeTrueMeasure() {
        int n = plain.desk.things.size();
        int a = below(n);
        int b = chance(3) ? below(n) : Math.min(n - 1, a + 1);
        int d = PlainPlaces.away(hidden[a], hidden[b]);
        int dx = hidden[b] % 8 - hidden[a] % 8;
        int dy = hidden[b] / 8 - hidden[a] / 8;
        if (leaning == 3 && chance(6)) {
            d = below(60);
        }
        switch (below(7)) {
            case 0:
                measure(0, a, b, d, d);
                break;
            case 1:
                measure(0, a, b, Math.max(0, d - below(4)), Math.min(98, d + below(4)));
                break;
            case 2:
                measure(1, a, b, below(9), Math.min(98, d + below(3)));
                break;
            case 3:
                measure(2, a, b, below(9), Math.max(0, d - 1 - below(2)));
                break;
            case 4:
                int side = Math.abs(dy) <= Math.abs(dx) ? dx > 0 ? 0 : 2 : dy > 0 ? 1 : 3;
                measure(3, a, b, side, below(9));
                break;
            case 5:
                int r = 1 + below(5);
                measure(4, a, b, Math.max(0, plain.hopsOf(hidden[a], hidden[b], r)), r);
                break;
            default:
                measure(0, a, b, d, d);
        }
    }

    private void makeThing(int kind) {
        int cell = freeCell();
        hidden[plain.desk.things.size()] = cell;
        say("thing", kind, cell);
        answer(x.thing(kind, cell), plain.thing(kind, cell));
    }

    private void makeMover(int n, int r) {
        for (int i = 0; i < n && plain.desk.things.size() + i < 24; i++) {
            hidden[plain.desk.things.size() + i] = freeCell();
        }
        say("mover", n, r);
        answer(x.mover(n, r), plain.mover(n, r));
    }

    /** One call of those that set a desk of hidden CELLS up. */
    private void prepare(int i) {
        int things = plain.desk.things.size();
        if (i == 0) {
            int w = 2 + below(6);
            int h = 2 + below(6);
            say("field", w, h);
            answer(x.field(w, h), plain.field(w, h));
        } else if (i < 4) {
            int cell = cell();
            say("wall", cell, 1);
            answer(x.wall(cell, true), plain.wall(cell, true));
        } else if (i < 12) {
            makeThing(chance(3) ? 1 + below(2) : 0);
        } else if (i == 12 && chance(3)) {
            makeMover(2 + below(5), below(10));
        } else if (i < 26) {
            makeTrueMeasure();
        } else if (i == 26) {
            is(chance(2));
        } else {
            int t = (i - 27) % things;
            int cell = hidden[t];
            say("put", t, cell);
            answer(x.put(t, cell), plain.put(t, cell));
        }
    }

    private void is(boolean alone) {
        say("alone", alone ? 1 : 0);
        answer(x.alone(alone), plain.alone(alone));
    }

    /** MEASURES by a SHEET, for the most part such as may be. */
    private void makeSheet(StringBuilder told) {
        int k = below(4);
        int lane = chance(5) ? below(2) : 2 + below(2);
        int n = 5 * (1 + below(4)) + below(3);
        int from = below(3);
        say("sheet", k, lane, n);
        answer(x.sheet(k, lane, n), plain.sheet(k, lane, n));
        tell(told);
        for (int i = 0; i < n && got == want; i++) {
            int[] most = {5, plain.desk.things.size() + 1, plain.desk.things.size() + 1, 4, 90};
            long v = i < from ? 0 : below(most[(i - from) % 5]);
            if ((i - from) % 5 == 2 && chance(2)) {
                v = Math.max(1, plain.desk.things.size() - 1);
            }
            v += chance(9) ? 1L << (8 << below(3)) : 0;
            say("lay", k, i, v);
            answer(x.lay(k, i, v), plain.lay(k, i, v));
            tell(told);
        }
        if (got == want) {
            int count = below(6);
            say("measures", k, lane, from, count);
            answer(x.measures(k, lane, from, count), plain.measures(k, lane, from, count));
            tell(told);
        }
    }

    private void tell(StringBuilder told) {
        told.append(told.length() > 0 ? "; " : "").append(call);
    }

    private void makeMeasure() {
        if (leaning != 0 && !chance(6) && plain.desk.things.size() > 1) {
            makeTrueMeasure();
            return;
        }
        int kind = near(0, 4);
        int a = thing();
        int b = thing();
        int p = kind == 0 ? near(0, 6) : kind == 3 ? near(0, 3) : kind == 4 ? near(0, 4) : near(0, 98);
        int q = kind == 0 ? chance(8) ? near(0, 98) : p + below(12) : chance(4) ? near(0, 98) : near(1, 9);
        measure(kind, a, b, p, q);
    }

    private void makeLater(int what) {
        int a, b, c, d, e;
        long v;
        boolean is;
        switch (what) {
            case 30:
                a = near(2, 8);
                b = chance(3) ? near(0, 98) : near(0, 4);
                say("mover", a, b);
                answer(x.mover(a, b), plain.mover(a, b));
                break;
            case 31:
                a = mover();
                b = near(0, 7);
                say("tick", a, b);
                answer(x.tick(a, b), plain.tick(a, b));
                break;
            case 32:
                a = mover();
                say("ways", a);
                answer(x.ways(a), plain.ways(a));
                break;
            case 33:
                a = mover();
                b = near(0, 7);
                long all = Math.max(1, plain.ways(a));
                v = chance(4) ? below(20) - 1 : chance(4) ? all - 1 : chance(4) ? all
                    : (long) below(1 << 30) * below(1 << 30) % all;
                say("way", a, v, b);
                answer(x.way(a, v, b), plain.way(a, v, b));
                break;
            case 34:
                a = thing();
                is = chance(4);
                say("trust", a, is ? 1 : 0);
                answer(x.trust(a, is), plain.trust(a, is));
                break;
            case 35:
                a = near(0, 1);
                say("liars", a);
                answer(x.liars(a), plain.liars(a));
                break;
            case 36:
                a = thing();
                say("lies", a);
                answer(x.lies(a), plain.lies(a));
                break;
            case 37:
                a = near(0, 1);
                say("keep", a);
                answer(x.keep(a), plain.keep(a));
                break;
            case 38:
                a = near(0, 1);
                say("back", a);
                answer(x.back(a), plain.back(a));
                break;
            case 39:
                a = near(0, 7);
                b = near(0, 1);
                c = b == 0 ? thing() : measure();
                say("hold", a, b, c);
                answer(x.hold(a, b, c), plain.hold(a, b, c));
                break;
            case 40:
                a = near(0, 7);
                say("loose", a);
                answer(x.loose(a), plain.loose(a));
                break;
            case 41:
                a = near(0, 7);
                b = near(0, 8);
                say("as", a, b);
                answer(x.as(a, b), plain.as(a, b));
                break;
            case 42:
                a = near(0, 7);
                b = near(0, 1);
                say("tell", a, b);
                answer(x.tell(a, b), plain.tell(a, b));
                break;
            case 43:
                a = near(0, 7);
                b = near(0, 1);
                say("greet", a, b);
                answer(x.greet(a, b), plain.greet(a, b));
                break;
            case 44:
                a = near(0, 3);
                b = chance(2) ? 2 : lane();
                c = chance(2) ? 64 : near(0, 64);
                say("sheet", a, b, c);
                answer(x.sheet(a, b, c), plain.sheet(a, b, c));
                break;
            case 45:
                a = near(0, 3);
                say("lose", a);
                answer(x.lose(a), plain.lose(a));
                break;
            case 46:
                a = near(0, 3);
                b = near(0, 12);
                v = chance(10) ? seed : chance(3) ? near(-40000, 40000) : below(5);
                say("lay", a, b, v);
                answer(x.lay(a, b, v), plain.lay(a, b, v));
                break;
            case 47:
                a = near(0, 3);
                b = near(0, 63);
                c = chance(2) ? 2 : lane();
                say("cell", a, b, c);
                answer(x.cell(a, b, c), plain.cell(a, b, c));
                break;
            case 48:
                a = near(0, 3);
                b = near(0, 20);
                c = near(0, 3);
                d = near(0, 20);
                e = near(0, 44);
                say("copy", a, b, c, d, e);
                answer(x.copy(a, b, c, d, e), plain.copy(a, b, c, d, e));
                break;
            default:
                a = near(0, 9);
                say("many", a);
                answer(x.many(a), plain.many(a));
        }
    }

    private void say(String name, long... arguments) {
        StringBuilder text = new StringBuilder(name).append('(');
        for (int i = 0; i < arguments.length; i++) {
            text.append(i > 0 ? ", " : "").append(arguments[i]);
        }
        call = text.append(')').toString();
    }

    private void answer(long now, long due) {
        got = now;
        want = due;
        if (got == want && x.fault() != plain.fault()) {
            call = "fault() after " + call;
            got = x.fault();
            want = plain.fault();
        }
        if (got == want && x.trace() != plain.trace()) {
            call = "trace() after " + call;
            got = x.trace();
            want = plain.trace();
        }
    }

    private boolean run(int number) {
        x = new HeardPlaces();
        plain = new PlainPlaces();
        leaning = number % 4;
        hidden = new int[64];
        StringBuilder told = new StringBuilder();
        for (int i = 0; i < CALLS && got == want; i++) {
            int in = i % 170;
            if (leaning != 0 && in < 35) {
                prepare(in);
                tell(told);
            } else if (chance(90)) {
                makeSheet(told);
            } else {
                make(choice());
                tell(told);
            }
        }
        if (got != want) {
            System.out.println("run " + number + ": " + told + " answered " + got + ", due is " + want);
        }
        return got == want;
    }

    /** Calls that undo much are seldom in runs that lean to something. */
    private int choice() {
        int what = below(50);
        boolean harsh = what <= 4 || what == 11 || what == 24 || what == 38;
        if (leaning == 0 ? what == 0 && !chance(6) : harsh && !chance(6)) {
            return leaning == 1 ? 17 + below(7) : leaning == 2 ? 25 + below(5) : 35 + below(2);
        }
        return what;
    }

    public static void main(String[] arguments) {
        int runs = arguments.length > 0 ? Integer.parseInt(arguments[0]) : 120;
        long base = arguments.length > 1 ? Long.parseLong(arguments[1]) : 7;
        int wrong = 0;
        for (int number = 0; number < runs && wrong < 3; number++) {
            wrong += new AgreeTest(base * 1000003 + number * 7919L).run(number) ? 0 : 1;
        }
        System.out.println(wrong == 0 ? runs + " runs agree" : wrong + " runs do not agree");
        System.exit(wrong == 0 ? 0 : 1);
    }
}
