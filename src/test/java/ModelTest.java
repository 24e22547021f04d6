import java.util.Random;

/** Long runs of calls, drawn by fixed seeds, each answer held against the plain model's; all promises. */
public final class ModelTest {
    private static final Due DUE = new Due();
    private static final int RUNS = 400;
    private static final int CALLS = 512;
    private static final int WHATS = 43;
    private static final String[] LETTERS = {"v", "v", "v", "c", "s", "k", "f", "d"};

    private final Random draw;
    private final ChairOnTheRoad x = new ChairOnTheRoad();
    private final PlainModel y = new PlainModel();
    private int left = CALLS;
    private final String run;

    private ModelTest(int seed) {
        draw = new Random(seed);
        run = "run " + seed + ": ";
    }

    public static void main(String[] args) {
        for (int seed = 0; seed < RUNS; seed++) {
            new ModelTest(seed).go();
        }
        DUE.end();
    }

    private void go() {
        tellText(true);
        while (left > 0) {
            int kind = draw.nextInt(20);
            if (kind == 0) {
                tellText(draw.nextBoolean());
            } else if (kind <= 2) {
                tellRow();
            } else {
                ask(draw.nextInt(WHATS));
            }
        }
    }

    /** A number mostly of 0 .. high, at times just outside, at times far off. */
    private int number(int high) {
        int odds = draw.nextInt(40);
        if (odds == 0) {
            return -1;
        }
        if (odds == 1) {
            return high + 1;
        }
        if (odds == 2) {
            return draw.nextInt();
        }
        return draw.nextInt(high + 1);
    }

    private int one() {
        return number(Math.max(0, y.s.all.size() - 1));
    }

    private void due(String call, long got, long want) {
        left--;
        DUE.is(run + call, got, want);
    }

    private void put(int d, int i, int v) {
        if (left > 0) {
            due("put(" + d + ", " + i + ", " + v + ")", x.put(d, i, v), y.put(d, i, v));
        }
    }

    private void tellText(boolean whole) {
        StringBuilder text = new StringBuilder();
        int statements = 1 + draw.nextInt(8);
        for (int i = 0; i < statements; i++) {
            text.append(statement());
        }
        if (!whole && text.length() > 0) {
            int at = draw.nextInt(text.length());
            if (draw.nextBoolean()) {
                text.setCharAt(at, "vcskfd;0129x:/".charAt(draw.nextInt(14)));
            } else {
                text.deleteCharAt(at);
            }
        }
        int d = draw.nextInt(8);
        int n = text.length();
        due("row(" + d + ", 0, " + n + ")", x.row(d, 0, n), y.row(d, 0, n));
        for (int i = 0; i < n; i++) {
            put(d, i, text.charAt(i));
        }
        if (left > 0) {
            due("province(" + d + ") of " + text, x.province(d), y.province(d));
        }
    }

    private String statement() {
        String letter = LETTERS[draw.nextInt(LETTERS.length)];
        switch (letter) {
            case "v": return String.format("v%d%d%02d%d;", draw.nextInt(8), draw.nextInt(10), draw.nextInt(12), draw.nextInt(7));
            case "c": return String.format("c%02d;", draw.nextInt(12));
            case "s": return String.format("s%d%02d;", draw.nextInt(6), draw.nextInt(12));
            case "k": return String.format("k%d%02d;", draw.nextInt(4), draw.nextInt(100));
            case "f": return String.format("f%d%d;", draw.nextInt(4), draw.nextInt(7));
            default: return String.format("d%02d;", 1 + draw.nextInt(20));
        }
    }

    /** A row that is often true: where the chair is, or stock of one or of all, on the next days; or places. */
    private void tellRow() {
        int d = draw.nextInt(8);
        int sort = draw.nextInt(3);
        int n = draw.nextInt(10);
        int sense = draw.nextInt(4);
        int v = one();
        due("row(" + d + ", " + sort + ", " + n + ")", x.row(d, sort, n), y.row(d, sort, n));
        for (int i = 0; i < n; i++) {
            int value = sense == 0 ? y.then(i, 0) : sense == 1 ? y.stockThen(v, i) : sense == 2 ? y.then(i, 3)
                : y.village(i, 2);
            if (sense < 3 && draw.nextInt(4) == 0) {
                value = sort == 0 ? -128 : sort == 1 ? -32768 : Integer.MIN_VALUE;
            } else if (draw.nextInt(30) == 0) {
                value++;
            }
            put(d, i, value);
        }
        if (left > 1) {
            int what = number(sense == 0 ? 2 : 1);
            switch (sense) {
                case 0: due("whereSat(" + d + ", " + what + ")", x.whereSat(d, what), y.whereSat(d, what)); break;
                case 1: due("whatIs(" + d + ", " + v + ", " + what + ")", x.whatIs(d, v, what), y.whatIs(d, v, what)); break;
                case 2: due("judge(" + d + ")", x.judge(d), y.judge(d)); break;
                default: due("forged(" + d + ")", x.forged(d), y.forged(d)); break;
            }
        }
    }

    private void ask(int what) {
        int d = number(7);
        int v = one();
        int n = number(60);
        int place = number(11);
        if (what < 22) {
            askOfProvince(what, d, v, n, place);
        } else {
            askOfRest(what, d, v);
        }
    }

    private static String call(String name, int... args) {
        StringBuilder call = new StringBuilder(name).append('(');
        for (int i = 0; i < args.length; i++) {
            call.append(i == 0 ? "" : ", ").append(args[i]);
        }
        return call.append(')').toString();
    }

    private void askOfProvince(int what, int d, int v, int n, int place) {
        int small = number(7);
        switch (what) {
            case 0: due(call("province", d), x.province(d), y.province(d)); break;
            case 1: due(call("village", v, small), x.village(v, small), y.village(v, small)); break;
            case 2: due(call("comes", d, place), x.comes(d, place), y.comes(d, place)); break;
            case 3: due(call("moves", v, place), x.moves(v, place), y.moves(v, place)); break;
            case 4: due(call("fetches", v, small), x.fetches(v, small), y.fetches(v, small)); break;
            case 5: int stock = number(99); due(call("stocks", v, stock), x.stocks(v, stock), y.stocks(v, stock)); break;
            case 6: due(call("sits", place), x.sits(place), y.sits(place)); break;
            case 7: int step = number(5); due(call("sun", step, place), x.sun(step, place), y.sun(step, place)); break;
            case 8: due(call("days", n), x.days(n), y.days(n)); break;
            case 9: int of = number(3); due(call("then", n, of), x.then(n, of), y.then(n, of)); break;
            case 10: due(call("stockThen", v, n), x.stockThen(v, n), y.stockThen(v, n)); break;
            case 11: due(call("firstCan", v), x.firstCan(v), y.firstCan(v)); break;
            case 12: int who = draw.nextInt(3) == 0 ? -1 : v; due(call("hungry", who), x.hungry(who), y.hungry(who)); break;
            case 13: due("round()", x.round(), y.round()); break;
            case 14: due(call("way", v, place), x.way(v, place), y.way(v, place)); break;
            case 15: int one = number(1); due(call("sit", one), x.sit(one), y.sit(one)); break;
            case 16: due(call("sitFor", n), x.sitFor(n), y.sitFor(n)); break;
            case 17: due(call("move", v, n), x.move(v, n), y.move(v, n)); break;
            case 18: due(call("fetch", v, n), x.fetch(v, n), y.fetch(v, n)); break;
            case 19: due(call("stepBest", n), x.stepBest(n), y.stepBest(n)); break;
            case 20: int m = draw.nextInt(3) == 0 ? -1 : v; due(call("match", m), x.match(m), y.match(m)); break;
            default: due(call("feed", n), x.feed(n), y.feed(n)); break;
        }
    }

    private void askOfRest(int what, int d, int v) {
        int part = number(1);
        int whats = number(2);
        switch (what) {
            case 22: int r = number(6); due(call("shade", r), x.shade(r), y.shade(r)); break;
            case 23: due(call("jam", whats), x.jam(whats), y.jam(whats)); break;
            case 24: due(call("chain", v), x.chain(v), y.chain(v)); break;
            case 25: due(call("whereSat", d, whats), x.whereSat(d, whats), y.whereSat(d, whats)); break;
            case 26: due(call("whatIs", d, v, part), x.whatIs(d, v, part), y.whatIs(d, v, part)); break;
            case 27: int u = one(); int m = number(30); due(call("two", v, u, m), x.two(v, u, m), y.two(v, u, m)); break;
            case 28: int wet = number(7); int t = number(20);
                due(call("rain", v, wet, t, part), x.rain(v, wet, t, part), y.rain(v, wet, t, part)); break;
            case 29: due(call("mean", part), x.mean(part), y.mean(part)); break;
            case 30: due(call("forged", d), x.forged(d), y.forged(d)); break;
            case 31: due(call("judge", d), x.judge(d), y.judge(d)); break;
            case 32: int z = draw.nextInt(); int years = number(20);
                due(call("years", years, z, part), x.years(years, z, part), y.years(years, z, part)); break;
            case 33: due("image()", x.image(), y.image()); break;
            case 34: due("restore()", x.restore(), y.restore()); break;
            case 35: int of = number(6); due(call("count", of), x.count(of), y.count(of)); break;
            case 36: int k = number(7); int f = number(9); int w = draw.nextInt(4) == 0 ? number(1) : 1;
                due(call("keep", d, w, k, f), x.keep(d, w, k, f), y.keep(d, w, k, f)); break;
            case 37: int size = number(draw.nextBoolean() ? 8 : 100);
                due(call("row", d, whats, size), x.row(d, whats, size), y.row(d, whats, size)); break;
            case 38: int p = number(8); int value = draw.nextInt(); due(call("put", d, p, value), x.put(d, p, value), y.put(d, p, value)); break;
            case 39: int i = number(8); due(call("element", d, i), element(d, i), y.element(d, i)); break;
            case 40: int e = number(7); int from = number(5); int to = number(5); int many = number(6);
                due(call("copy", d, from, e, to, many), x.copy(d, from, e, to, many), y.copy(d, from, e, to, many)); break;
            case 41: due(call("cost", d), x.cost(d), y.cost(d)); break;
            default: due(call("toss", d), x.toss(d), y.toss(d)); break;
        }
    }

    private long element(int d, int i) {
        try {
            return x.element(d, i);
        } catch (IllegalArgumentException e) {
            return 1L + Integer.MAX_VALUE;
        } catch (IllegalStateException e) {
            return 2L + Integer.MAX_VALUE;
        }
    }
}
