import java.math.BigInteger;
import java.util.ArrayList;
import java.util.Arrays;
import java.util.List;

/** The document once more, by the plainest means and with none of the program's: every question is tried out whole. */
final class PlainModel {
    static final int MIN = Integer.MIN_VALUE;

    static final class One {
        int kind;
        int figure;
        int place;
        int from;
        int stock = 10;

        One(int kind, int figure, int place, int from) {
            this.kind = kind;
            this.figure = figure;
            this.place = place;
            this.from = from;
        }
    }

    static final class State {
        List<One> all = new ArrayList<>();
        int chair = 0;
        int step = 1;
        int home = 6;
        int nods = 0;
        int day = 0;

        State twin() {
            State s = new State();
            for (One o : all) {
                One p = new One(o.kind, o.figure, o.place, o.from);
                p.stock = o.stock;
                s.all.add(p);
            }
            s.chair = chair;
            s.step = step;
            s.home = home;
            s.nods = nods;
            s.day = day;
            return s;
        }

        static int far(int a, int b) {
            return Math.min(Math.floorMod(a - b, 12), Math.floorMod(b - a, 12));
        }

        int way(One o, int to) {
            int round = far(o.place, chair) + far(chair, to);
            return switch (o.kind) {
                case 0 -> round;
                case 1 -> Math.max(0, round - 1);
                case 2, 7 -> far(o.place, to);
                case 3 -> far(o.place, to) + far(chair, to);
                case 4 -> 2 * Math.max(0, round - 1);
                case 5 -> round / 2;
                default -> 2 * Math.max(0, round - 1) + (day % 2 == 1 ? 1 : 0);
            };
        }

        static int goes(One o) {
            int village = 6 + o.figure / 3;
            return new int[] {village, village + 2, o.figure, o.figure / 2, 2 * (village + 2), 4,
                2 * (village + 2) + 1, 0}[o.kind];
        }

        static int brings(One o) {
            return new int[] {3, o.figure, 2, 2, o.figure + 1, o.figure / 2, 9, 2}[o.kind];
        }

        static int eats(One o) {
            int bishop = 1 + o.figure / 3;
            return new int[] {2, 1, 2, 0, bishop, 1, 2 * bishop, 1}[o.kind];
        }

        static boolean nods(One o) {
            return o.kind != 2 && o.kind != 3 && o.kind != 7;
        }

        boolean fetching(int v) {
            return all.get(v).from != v && all.get(v).from < all.size();
        }

        boolean can(int v) {
            One o = all.get(v);
            return fetching(v) && way(o, all.get(o.from).place) <= goes(o);
        }

        void chairOn() {
            day++;
            chair = day % 12 == 0 ? home : (chair + step) % 12;
        }

        State days(int n) {
            for (int i = 0; i < n; i++) {
                chairOn();
                for (int v = 0; v < all.size(); v++) {
                    One o = all.get(v);
                    if (can(v)) {
                        One source = all.get(o.from);
                        int taken = Math.min(brings(o), source.stock);
                        source.stock -= taken;
                        o.stock = Math.min(99, o.stock + taken);
                        nods = nods(o) ? Math.min(9999, nods + 1) : nods;
                    }
                    o.stock = Math.max(0, o.stock - eats(o));
                }
            }
            return this;
        }

        int stock() {
            return all.stream().mapToInt(o -> o.stock).sum();
        }

        int hungry() {
            return (int) all.stream().filter(o -> o.stock == 0).count();
        }
    }

    /** A kind (sort -1) or a row. */
    record Held(int kind, int figure, int sort, int[] cells) {
        boolean isRow() {
            return sort >= 0;
        }

        boolean skipped(int i) {
            return cells[i] == (sort == 0 ? -128 : sort == 1 ? -32768 : MIN);
        }
    }

    State s = new State();
    private State image;
    private final Held[] shelves = new Held[8];

    private boolean there(int v) {
        return v >= 0 && v < s.all.size();
    }

    private static boolean in(int x, int low, int high) {
        return x >= low && x <= high;
    }

    private int refuse(int d, boolean wantRow) {
        if (!in(d, 0, 7)) {
            return -1;
        }
        if (shelves[d] == null) {
            return -11;
        }
        return shelves[d].isRow() == wantRow ? 0 : -12;
    }

    int province(int d) {
        int refused = refuse(d, true);
        if (refused != 0 || shelves[d].sort != 0) {
            return refused != 0 ? refused : -12;
        }
        StringBuilder text = new StringBuilder();
        for (int c : shelves[d].cells) {
            text.append((char) (c & 255));
        }
        String one = "(v[0-9]{5}|[sk][0-9]{3}|[cfd][0-9]{2});";
        if (!text.toString().matches("(" + one + ")+")) {
            return -1000 - longestStart(text.toString(), one);
        }
        State tried = s.twin();
        int at = 0;
        String[] statements = text.toString().split(";");
        for (String statement : statements) {
            if (!told(tried, statement)) {
                return -2000 - at;
            }
            at += statement.length() + 1;
        }
        s = tried;
        return statements.length;
    }

    /** How many bytes can be had before no province can go on: tried by every way to fill up what lacks. */
    private static int longestStart(String text, String one) {
        String[] ends = {"", ";", "0;", "00;", "000;", "0000;", "00000;", "c00;"};
        for (int n = text.length(); n > 0; n--) {
            for (String end : ends) {
                if ((text.substring(0, n) + end).matches("(" + one + ")+")) {
                    return n;
                }
            }
        }
        return 0;
    }

    private static boolean told(State t, String statement) {
        int[] n = statement.chars().map(c -> c - '0').toArray();
        switch (statement.charAt(0)) {
            case 'v':
                if (n[1] > 7 || 10 * n[3] + n[4] > 11 || n[5] > 6 || t.all.size() == 7) {
                    return false;
                }
                t.all.add(new One(n[1], n[2], 10 * n[3] + n[4], n[5]));
                return true;
            case 'c':
                t.chair = 10 * n[1] + n[2];
                return t.chair < 12;
            case 's':
                t.step = n[1];
                t.home = 10 * n[2] + n[3];
                return t.step < 6 && t.home < 12;
            case 'k':
                if (n[1] >= t.all.size()) {
                    return false;
                }
                t.all.get(n[1]).stock = 10 * n[2] + n[3];
                return true;
            case 'f':
                if (n[1] >= t.all.size() || n[2] > 6) {
                    return false;
                }
                t.all.get(n[1]).from = n[2];
                return true;
            default:
                int days = 10 * n[1] + n[2];
                if (!in(days, 1, 60) || t.day + days > 999) {
                    return false;
                }
                t.days(days);
                return true;
        }
    }

    int village(int v, int what) {
        if (!there(v) || !in(what, 0, 7)) {
            return -1;
        }
        One o = s.all.get(v);
        int way = s.fetching(v) ? s.way(o, s.all.get(o.from).place) : -4;
        return new int[] {o.kind, o.figure, o.place, o.from, o.stock, way, s.can(v) ? 1 : 0, State.goes(o)}[what];
    }

    int comes(int d, int place) {
        if (!in(d, 0, 7) || !in(place, 0, 11)) {
            return -1;
        }
        int refused = refuse(d, false);
        if (refused != 0 || s.all.size() == 7) {
            return refused != 0 ? refused : -2;
        }
        s.all.add(new One(shelves[d].kind, shelves[d].figure, place, s.all.size()));
        return s.all.size() - 1;
    }

    int moves(int v, int place) {
        if (!there(v) || !in(place, 0, 11)) {
            return -1;
        }
        int old = s.all.get(v).place;
        s.all.get(v).place = place;
        return old;
    }

    int fetches(int v, int from) {
        if (!there(v) || !in(from, 0, 6)) {
            return -1;
        }
        int old = s.all.get(v).from;
        s.all.get(v).from = from;
        return old;
    }

    int stocks(int v, int stock) {
        if (!there(v) || !in(stock, 0, 99)) {
            return -1;
        }
        int old = s.all.get(v).stock;
        s.all.get(v).stock = stock;
        return old;
    }

    int sits(int place) {
        if (!in(place, 0, 11)) {
            return -1;
        }
        int old = s.chair;
        s.chair = place;
        return old;
    }

    int sun(int step, int home) {
        if (!in(step, 0, 5) || !in(home, 0, 11)) {
            return -1;
        }
        int old = 100 * s.step + s.home;
        s.step = step;
        s.home = home;
        return old;
    }

    int days(int n) {
        if (!in(n, 1, 60)) {
            return -1;
        }
        return s.day + n > 999 ? -3 : s.days(n).stock();
    }

    int then(int n, int what) {
        if (!in(n, 0, 60) || !in(what, 0, 3)) {
            return -1;
        }
        State t = s.twin().days(n);
        int bits = 0;
        for (int v = 0; v < t.all.size(); v++) {
            bits += t.can(v) ? 1 << v : 0;
        }
        return new int[] {t.chair, t.nods, bits, t.stock()}[what];
    }

    int stockThen(int v, int n) {
        return there(v) && in(n, 0, 60) ? s.twin().days(n).all.get(v).stock : -1;
    }

    int firstCan(int v) {
        if (!there(v)) {
            return -1;
        }
        for (int n = 0; n <= 60; n++) {
            if (s.twin().days(n).can(v)) {
                return n;
            }
        }
        return -4;
    }

    int hungry(int v) {
        if (v != -1 && !there(v)) {
            return -1;
        }
        for (int n = 0; n <= 60; n++) {
            State t = s.twin().days(n);
            for (int u = 0; u < t.all.size(); u++) {
                if (t.all.get(u).stock == 0 && (v == -1 || u == v)) {
                    return v == -1 ? u : n;
                }
            }
        }
        return -4;
    }

    int round() {
        for (int n = 1; n <= 60; n++) {
            if (s.twin().days(n).chair == s.chair) {
                return n;
            }
        }
        return -4;
    }

    int way(int v, int place) {
        return there(v) && in(place, 0, 11) ? s.way(s.all.get(v), place) : -1;
    }

    int sit(int what) {
        if (!in(what, 0, 1)) {
            return -1;
        }
        int[] all = new int[12];
        for (int place = 0; place < 12; place++) {
            State t = s.twin();
            t.chair = place;
            for (int v = 0; v < t.all.size(); v++) {
                all[place] += t.fetching(v) ? t.way(t.all.get(v), t.all.get(t.all.get(v).from).place) : 0;
            }
        }
        int least = Arrays.stream(all).min().orElse(0);
        int place = 0;
        while (all[place] != least) {
            place++;
        }
        return what == 0 ? place : least;
    }

    private static int firstOfMost(int[] of) {
        int most = Arrays.stream(of).max().orElse(0);
        int i = 0;
        while (of[i] != most) {
            i++;
        }
        return i;
    }

    int sitFor(int n) {
        int[] stock = new int[12];
        for (int place = 0; place < 12 && in(n, 0, 60); place++) {
            State t = s.twin();
            t.chair = place;
            stock[place] = t.days(n).stock();
        }
        return in(n, 0, 60) ? firstOfMost(stock) : -1;
    }

    int move(int v, int n) {
        if (!there(v) || !in(n, 0, 60)) {
            return -1;
        }
        int[] stock = new int[12];
        for (int place = 0; place < 12; place++) {
            State t = s.twin();
            t.all.get(v).place = place;
            stock[place] = t.days(n).all.get(v).stock;
        }
        return firstOfMost(stock);
    }

    int fetch(int v, int n) {
        if (!there(v) || !in(n, 0, 60)) {
            return -1;
        }
        int[] stock = new int[s.all.size()];
        for (int from = 0; from < stock.length; from++) {
            State t = s.twin();
            t.all.get(v).from = from;
            stock[from] = t.days(n).all.get(v).stock;
        }
        int best = firstOfMost(stock);
        return stock[best] > stockThen(v, n) ? best : -4;
    }

    int stepBest(int n) {
        int[] stock = new int[6];
        for (int step = 0; step < 6 && in(n, 0, 60); step++) {
            State t = s.twin();
            t.step = step;
            stock[step] = t.days(n).stock();
        }
        return in(n, 0, 60) ? firstOfMost(stock) : -1;
    }

    private int leastSum;
    private int[] leastMatch;

    private void tryMatches(int[] match, int v, int sum) {
        if (v == match.length) {
            if (sum < leastSum) {
                leastSum = sum;
                leastMatch = match.clone();
            }
            return;
        }
        for (int from = 0; from < match.length; from++) {
            boolean free = from != v;
            for (int u = 0; u < v; u++) {
                free &= match[u] != from;
            }
            if (free) {
                match[v] = from;
                tryMatches(match, v + 1, sum + s.way(s.all.get(v), s.all.get(from).place));
            }
        }
    }

    int match(int v) {
        if (v != -1 && !there(v)) {
            return -1;
        }
        if (s.all.size() < 2) {
            return -4;
        }
        leastSum = Integer.MAX_VALUE;
        tryMatches(new int[s.all.size()], 0, 0);
        return v == -1 ? leastSum : leastMatch[v];
    }

    int feed(int n) {
        if (!in(n, 0, 60)) {
            return -1;
        }
        int best = -4;
        int fewest = s.twin().days(n).hungry();
        for (int v = 0; v < s.all.size(); v++) {
            State t = s.twin();
            t.all.get(v).stock = Math.min(99, t.all.get(v).stock + 20);
            int hungry = t.days(n).hungry();
            if (hungry < fewest) {
                fewest = hungry;
                best = v;
            }
        }
        return best;
    }

    int shade(int r) {
        int bits = 0;
        for (int v = 0; v < s.all.size(); v++) {
            bits += State.far(s.all.get(v).place, s.chair) <= r ? 1 << v : 0;
        }
        return in(r, 0, 6) ? bits : -1;
    }

    /** Whether the chair is met by walking the lesser way from one place to the other. */
    private boolean between(int from, int to) {
        int turn = Math.floorMod(to - from, 12);
        for (int i = 0; turn < 6 && i <= turn; i++) {
            if ((from + i) % 12 == s.chair) {
                return true;
            }
        }
        return false;
    }

    int jam(int what) {
        int jam = 0;
        int frontier = 0;
        int longest = 0;
        for (int v = 0; v < s.all.size(); v++) {
            jam += s.can(v) && State.nods(s.all.get(v)) ? 1 : 0;
            longest = Math.max(longest, chain(v));
            for (int u = 0; u < v; u++) {
                boolean met = between(s.all.get(u).place, s.all.get(v).place)
                    || between(s.all.get(v).place, s.all.get(u).place);
                frontier += met ? 1 : 0;
            }
        }
        return in(what, 0, 2) ? new int[] {jam, frontier, longest}[what] : -1;
    }

    int chain(int v) {
        if (!there(v)) {
            return -1;
        }
        List<Integer> met = new ArrayList<>();
        int at = v;
        while (there(at) && !met.contains(at)) {
            met.add(at);
            at = s.all.get(at).from;
        }
        return met.size();
    }

    int whereSat(int d, int what) {
        int refused = in(what, 0, 2) ? refuse(d, true) : -1;
        if (refused != 0) {
            return refused;
        }
        List<Integer> twos = new ArrayList<>();
        for (int step = 0; step < 6; step++) {
            for (int home = 0; home < 12; home++) {
                State t = s.twin();
                t.step = step;
                t.home = home;
                boolean so = true;
                for (int i = 0; i < shelves[d].cells.length; i++) {
                    so &= shelves[d].skipped(i) || shelves[d].cells[i] == t.chair;
                    t.chairOn();
                }
                if (so) {
                    twos.add(100 * step + home);
                }
            }
        }
        int size = twos.size();
        return what == 0 ? size : size == 0 ? -4 : what == 1 ? twos.get(0) : twos.get(size - 1);
    }

    int whatIs(int d, int v, int what) {
        int refused = there(v) && in(what, 0, 1) ? refuse(d, true) : -1;
        if (refused != 0) {
            return refused;
        }
        int bits = 0;
        for (int guess = 0; guess < (what == 0 ? 8 : 10); guess++) {
            State t = s.twin();
            if (what == 0) {
                t.all.get(v).kind = guess;
            } else {
                t.all.get(v).figure = guess;
            }
            boolean so = true;
            for (int i = 0; i < shelves[d].cells.length; i++) {
                so &= shelves[d].skipped(i) || shelves[d].cells[i] == t.all.get(v).stock;
                t.days(1);
            }
            bits += so ? 1 << guess : 0;
        }
        return bits;
    }

    private int pay(int who, int[] ones, int[] choices, int n) {
        State t = s.twin();
        for (int i = 0; i < 2; i++) {
            if (choices[i] == 0) {
                t.all.get(ones[i]).from = ones[i];
            }
        }
        return t.days(n).all.get(ones[who]).stock + (choices[who] == 0 ? 5 : 0);
    }

    int two(int a, int b, int n) {
        if (!there(a) || !there(b) || a == b || !in(n, 0, 30)) {
            return -1;
        }
        int[] ones = {a, b};
        for (int x = 0; x < 2; x++) {
            for (int y = 0; y < 2; y++) {
                boolean first = pay(0, ones, new int[] {1 - x, y}, n) <= pay(0, ones, new int[] {x, y}, n);
                boolean second = pay(1, ones, new int[] {x, 1 - y}, n) <= pay(1, ones, new int[] {x, y}, n);
                if (first && second) {
                    return 10 * x + y;
                }
            }
        }
        return -4;
    }

    /** Every course of dry and wet days by itself: above the line of t to the n. */
    private static BigInteger courses(State t, int v, int n, int odds) {
        if (n == 0) {
            return t.can(v) ? BigInteger.ONE : BigInteger.ZERO;
        }
        State dry = t.twin();
        dry.chairOn();
        State wet = dry.twin();
        if (wet.day % 12 != 0) {
            wet.chair = t.chair;
        }
        return courses(wet, v, n - 1, odds).add(courses(dry, v, n - 1, odds).multiply(BigInteger.valueOf(odds - 1)));
    }

    long rain(int v, int n, int t, int part) {
        if (!there(v) || !in(n, 0, 7) || !in(t, 2, 20) || !in(part, 0, 1)) {
            return 1000000001L;
        }
        return part(courses(s, v, n, t), BigInteger.valueOf(t).pow(n), part);
    }

    private static long part(BigInteger above, BigInteger below, int part) {
        BigInteger divisor = above.gcd(below);
        return (part == 0 ? above : below).divide(divisor).longValueExact();
    }

    long mean(int part) {
        if (!in(part, 0, 1)) {
            return 1000000001L;
        }
        if (s.all.isEmpty()) {
            return part;
        }
        return part(BigInteger.valueOf(s.stock()), BigInteger.valueOf(s.all.size()), part);
    }

    int forged(int d) {
        int refused = refuse(d, true);
        for (int i = 0; refused == 0 && i < shelves[d].cells.length; i++) {
            if (!there(i) || s.all.get(i).place != shelves[d].cells[i]) {
                return i;
            }
        }
        return refused != 0 ? refused : -4;
    }

    int judge(int d) {
        int refused = refuse(d, true);
        for (int i = 0; refused == 0 && i < shelves[d].cells.length; i++) {
            if (!shelves[d].skipped(i) && s.twin().days(i).stock() != shelves[d].cells[i]) {
                return i;
            }
        }
        return refused != 0 ? refused : -4;
    }

    int years(int n, int z, int what) {
        if (!in(n, 1, 20) || !in(what, 0, 1)) {
            return -1;
        }
        int sum = 0;
        BigInteger seed = BigInteger.valueOf(z);
        for (int year = 0; year < n; year++) {
            State t = s.twin();
            for (One o : t.all) {
                seed = seed.multiply(BigInteger.valueOf(1103515245)).add(BigInteger.valueOf(12345));
                o.place = seed.mod(BigInteger.ONE.shiftLeft(31)).intValueExact() / 65536 % 12;
            }
            t.days(12);
            sum += what == 0 ? t.stock() : t.nods - s.nods;
        }
        return sum;
    }

    int image() {
        image = s.twin();
        return s.day;
    }

    int restore() {
        if (image == null) {
            return -3;
        }
        s = image.twin();
        return s.day;
    }

    int count(int what) {
        int[] told = {s.all.size(), s.day, s.chair, s.nods, s.stock(), s.step, s.home};
        return in(what, 0, 6) ? told[what] : -1;
    }

    int keep(int d, int what, int k, int figure) {
        if (!in(d, 0, 7) || !in(what, 0, 1) || what == 1 && (!in(k, 0, 7) || !in(figure, 0, 9))) {
            return -1;
        }
        shelves[d] = what == 0 ? null : new Held(k, figure, -1, null);
        return 0;
    }

    int row(int d, int sort, int n) {
        if (!in(d, 0, 7) || !in(sort, 0, 2) || n > 100) {
            return -1;
        }
        if (n < 0) {
            return -14;
        }
        shelves[d] = new Held(0, 0, sort, new int[n]);
        return 0;
    }

    int put(int d, int i, int v) {
        int refused = refuse(d, true);
        if (refused != 0 || !in(i, 0, shelves[d].cells.length - 1)) {
            return refused != 0 ? refused : -13;
        }
        shelves[d].cells[i] = shelves[d].sort == 0 ? (byte) v : shelves[d].sort == 1 ? (short) v : v;
        return 0;
    }

    /** The element; 1 or 2 above all ints for the one or the other exception. */
    long element(int d, int i) {
        if (!in(d, 0, 7)) {
            return 1L + Integer.MAX_VALUE;
        }
        if (refuse(d, true) != 0 || !in(i, 0, shelves[d].cells.length - 1)) {
            return 2L + Integer.MAX_VALUE;
        }
        return shelves[d].cells[i];
    }

    int copy(int d, int i, int e, int j, int n) {
        if (!in(d, 0, 7) || !in(e, 0, 7)) {
            return -1;
        }
        if (shelves[d] == null || shelves[e] == null) {
            return -11;
        }
        if (!shelves[d].isRow() || shelves[d].sort != shelves[e].sort) {
            return -12;
        }
        long endFrom = (long) i + n;
        long endTo = (long) j + n;
        if (i < 0 || j < 0 || n < 0 || endFrom > shelves[d].cells.length || endTo > shelves[e].cells.length) {
            return -13;
        }
        int[] taken = Arrays.copyOfRange(shelves[d].cells, i, i + n);
        for (int k = 0; k < n; k++) {
            shelves[e].cells[j + k] = taken[k];
        }
        return n;
    }

    int cost(int d) {
        int refused = refuse(d, false);
        if (refused != 0) {
            return refused;
        }
        int bishop = 2 * (4 + shelves[d].figure);
        return new int[] {4, 4 + shelves[d].figure, 9, 4, bishop, 1, bishop + 3, 0}[shelves[d].kind];
    }

    int toss(int d) {
        int refused = refuse(d, false);
        if (refused != 0) {
            return refused;
        }
        int figure = shelves[d].figure;
        if (figure == 0 || shelves[d].kind == 5) {
            return -15;
        }
        return switch (shelves[d].kind) {
            case 2, 3, 7 -> 100 + figure;
            case 4, 6 -> 200 + cost(d);
            default -> figure;
        };
    }
}
