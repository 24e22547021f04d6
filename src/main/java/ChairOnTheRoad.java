import java.util.Arrays;

/** Every road has to pass a certain old man's chair: villages round a green that fetch from one another by him. */
public final class ChairOnTheRoad {
    private static final int PLACES = 12;
    private static final int MOST_VILLAGES = 7;
    private static final int MOST_STOCK = 99;
    private static final int FIRST_STOCK = 10;
    private static final int MOST_NODS = 9999;
    private static final int LAST_DAY = 999;
    private static final int MOST_STEP = 5;
    private static final int KINDS = 8;
    private static final int FIGURES = 10;
    private static final int DAYS_ON = 60;
    private static final int DAYS_OF_TWO = 30;
    private static final int DAYS_OF_RAIN = 7;
    private static final int DAYS_OF_A_YEAR = 12;
    private static final int MOST_YEARS = 20;
    private static final int FED = 20;
    private static final int FOR_STAYING = 5;
    private static final int SHELVES = 8;
    private static final int MOST_ELEMENTS = 100;
    private static final int SORTS = 3;

    private static final int NO_SUCH = -1;
    private static final int NO_ROOM = -2;
    private static final int NOT_SO = -3;
    private static final int NONE = -4;
    private static final int NOTHING_HELD = -11;
    private static final int OTHER_KIND = -12;
    private static final int NO_PLACE = -13;
    private static final int SIZE_BELOW_0 = -14;
    private static final int NO_FAILURE = -15;
    private static final long LONG_REFUSAL = 1000000000L;

    private static final int FAULT_OF_FORM = -1000;
    private static final int FAULT_OF_SENSE = -2000;
    private static final int OUT_OF_REACH = 1000000;
    private static final int ALL_BUT_SIGN = 0x7fffffff;

    private final Village[] kinds;
    private final Province now;
    private final Province mind;
    private final Province image;
    private boolean imageTaken;
    private final Shelf[] shelves;

    // Made once and used again by every call, so that asking makes no objects.
    private final int[] wayBetween = new int[MOST_VILLAGES * MOST_VILLAGES];
    private final int[] leastRest = new int[1 << MOST_VILLAGES];
    private final int[] payOfOne = new int[4];
    private final int[] payOfOther = new int[4];
    private final long[] chances = new long[PLACES];
    private final long[] chancesNext = new long[PLACES];

    public ChairOnTheRoad() {
        kinds = new Village[] {
            new Village(), new Baker(), new Doctor(), new Hearse(),
            new Bishop(), new Pedlar(), new Army(), new Hermit()
        };
        now = new Province(kinds);
        mind = new Province(kinds);
        image = new Province(kinds);
        shelves = new Shelf[SHELVES];
        for (int d = 0; d < SHELVES; d++) {
            shelves[d] = new Shelf();
        }
    }

    // ---- the province as told

    public int province(int d) {
        int refusal = refuseRow(d);
        if (refusal != 0) {
            return refusal;
        }
        Shelf text = shelves[d];
        if (text.sort != Shelf.BYTES) {
            return OTHER_KIND;
        }
        int fault = placeOfFault(text);
        if (fault >= 0) {
            return FAULT_OF_FORM - fault;
        }
        // Told in mind first: with a fault nothing of it may come.
        mind.become(now);
        int statements = 0;
        for (int i = 0; i < text.length; i += 2 + digitsBehind(text.cells[i])) {
            if (!isTold(text, i)) {
                return FAULT_OF_SENSE - i;
            }
            statements++;
        }
        now.become(mind);
        return statements;
    }

    public int village(int v, int what) {
        if (!now.isThere(v)) {
            return NO_SUCH;
        }
        switch (what) {
            case 0: return now.kind[v];
            case 1: return now.figure[v];
            case 2: return now.place[v];
            case 3: return now.from[v];
            case 4: return now.stock[v];
            case 5: return now.hasSource(v) ? now.wayToSource(v) : NONE;
            case 6: return now.isAble(v) ? 1 : 0;
            case 7: return now.goes[v];
            default: return NO_SUCH;
        }
    }

    public int comes(int d, int place) {
        if (!isShelf(d) || !isPlace(place)) {
            return NO_SUCH;
        }
        int refusal = refuseKind(d);
        if (refusal != 0) {
            return refusal;
        }
        return now.add(shelves[d].kind, shelves[d].figure, place, now.villages);
    }

    public int moves(int v, int place) {
        if (!now.isThere(v) || !isPlace(place)) {
            return NO_SUCH;
        }
        int old = now.place[v];
        now.place[v] = place;
        return old;
    }

    public int fetches(int v, int from) {
        return now.setFrom(v, from);
    }

    public int stocks(int v, int s) {
        return now.setStock(v, s);
    }

    public int sits(int place) {
        return now.setChair(place);
    }

    public int sun(int step, int home) {
        return now.setSun(step, home);
    }

    public int days(int n) {
        int refusal = now.refuseDays(n);
        if (refusal != 0) {
            return refusal;
        }
        now.goDays(n);
        return now.allStock();
    }

    // ---- days on

    public int then(int n, int what) {
        if (!isDaysOn(n) || what < 0 || what > 3) {
            return NO_SUCH;
        }
        mind.become(now);
        mind.goDays(n);
        switch (what) {
            case 0: return mind.chair;
            case 1: return mind.nods;
            case 2: return mind.ableBits();
            default: return mind.allStock();
        }
    }

    public int stockThen(int v, int n) {
        if (!now.isThere(v) || !isDaysOn(n)) {
            return NO_SUCH;
        }
        mind.become(now);
        mind.goDays(n);
        return mind.stock[v];
    }

    public int firstCan(int v) {
        if (!now.isThere(v)) {
            return NO_SUCH;
        }
        mind.become(now);
        for (int n = 0; n <= DAYS_ON; n++) {
            if (mind.isAble(v)) {
                return n;
            }
            mind.moveChair();
        }
        return NONE;
    }

    public int hungry(int v) {
        if (v < -1 || v >= now.villages) {
            return NO_SUCH;
        }
        mind.become(now);
        for (int n = 0; n <= DAYS_ON; n++) {
            int first = v >= 0 ? NONE : mind.firstHungry();
            if (first >= 0) {
                return first;
            }
            if (v >= 0 && mind.stock[v] == 0) {
                return n;
            }
            mind.goDays(1);
        }
        return NONE;
    }

    public int round() {
        mind.become(now);
        for (int n = 1; n <= DAYS_ON; n++) {
            mind.moveChair();
            if (mind.chair == now.chair) {
                return n;
            }
        }
        return NONE;
    }

    public int way(int v, int place) {
        if (!now.isThere(v) || !isPlace(place)) {
            return NO_SUCH;
        }
        return now.wayTo(v, place);
    }

    // ---- where he should sit, who should fetch from whom

    public int sit(int what) {
        if (what != 0 && what != 1) {
            return NO_SUCH;
        }
        mind.become(now);
        int best = 0;
        int least = OUT_OF_REACH;
        for (int place = 0; place < PLACES; place++) {
            mind.chair = place;
            int ways = mind.allWays();
            if (ways < least) {
                least = ways;
                best = place;
            }
        }
        return what == 0 ? best : least;
    }

    public int sitFor(int n) {
        if (!isDaysOn(n)) {
            return NO_SUCH;
        }
        int best = 0;
        int most = -1;
        for (int place = 0; place < PLACES; place++) {
            mind.become(now);
            mind.chair = place;
            mind.goDays(n);
            int stock = mind.allStock();
            if (stock > most) {
                most = stock;
                best = place;
            }
        }
        return best;
    }

    public int move(int v, int n) {
        if (!now.isThere(v) || !isDaysOn(n)) {
            return NO_SUCH;
        }
        int best = 0;
        int most = -1;
        for (int place = 0; place < PLACES; place++) {
            mind.become(now);
            mind.place[v] = place;
            mind.goDays(n);
            if (mind.stock[v] > most) {
                most = mind.stock[v];
                best = place;
            }
        }
        return best;
    }

    public int fetch(int v, int n) {
        if (!now.isThere(v) || !isDaysOn(n)) {
            return NO_SUCH;
        }
        mind.become(now);
        mind.goDays(n);
        int most = mind.stock[v];
        int best = NONE;
        for (int from = 0; from < now.villages; from++) {
            mind.become(now);
            mind.from[v] = from;
            mind.goDays(n);
            if (mind.stock[v] > most) {
                most = mind.stock[v];
                best = from;
            }
        }
        return best;
    }

    public int stepBest(int n) {
        if (!isDaysOn(n)) {
            return NO_SUCH;
        }
        int best = 0;
        int most = -1;
        for (int step = 0; step <= MOST_STEP; step++) {
            mind.become(now);
            mind.step = step;
            mind.goDays(n);
            int stock = mind.allStock();
            if (stock > most) {
                most = stock;
                best = step;
            }
        }
        return best;
    }

    public int match(int v) {
        if (v < -1 || v >= now.villages) {
            return NO_SUCH;
        }
        if (now.villages < 2) {
            return NONE;
        }
        measureWaysBetween();
        measureLeastRests();
        return v == -1 ? leastRest[0] : matchedSource(v);
    }

    public int feed(int n) {
        if (!isDaysOn(n)) {
            return NO_SUCH;
        }
        mind.become(now);
        mind.goDays(n);
        int fewest = mind.allHungry();
        int best = NONE;
        for (int v = 0; v < now.villages; v++) {
            mind.become(now);
            mind.stock[v] = Math.min(MOST_STOCK, mind.stock[v] + FED);
            mind.goDays(n);
            int hungry = mind.allHungry();
            if (hungry < fewest) {
                fewest = hungry;
                best = v;
            }
        }
        return best;
    }

    public int shade(int r) {
        if (r < 0 || r > PLACES / 2) {
            return NO_SUCH;
        }
        int bits = 0;
        for (int v = 0; v < now.villages; v++) {
            if (far(now.place[v], now.chair) <= r) {
                bits |= 1 << v;
            }
        }
        return bits;
    }

    public int jam(int what) {
        switch (what) {
            case 0: return now.allJammed();
            case 1: return frontier();
            case 2: return longestChain();
            default: return NO_SUCH;
        }
    }

    public int chain(int v) {
        return now.isThere(v) ? now.lengthOfChain(v) : NO_SUCH;
    }

    // ---- where he sat, what kind one is

    public int whereSat(int d, int what) {
        if (what < 0 || what > 2) {
            return NO_SUCH;
        }
        int refusal = refuseRow(d);
        if (refusal != 0) {
            return refusal;
        }
        int twos = 0;
        int least = NONE;
        int greatest = NONE;
        for (int two = 0; two < (MOST_STEP + 1) * PLACES; two++) {
            int step = two / PLACES;
            int home = two % PLACES;
            if (isSeenSo(shelves[d], step, home)) {
                twos++;
                greatest = 100 * step + home;
                least = least == NONE ? greatest : least;
            }
        }
        return what == 0 ? twos : what == 1 ? least : greatest;
    }

    public int whatIs(int d, int v, int what) {
        if (!now.isThere(v) || what < 0 || what > 1) {
            return NO_SUCH;
        }
        int refusal = refuseRow(d);
        if (refusal != 0) {
            return refusal;
        }
        int bits = 0;
        for (int guess = 0; guess < (what == 0 ? KINDS : FIGURES); guess++) {
            mind.become(now);
            if (what == 0) {
                mind.dress(v, guess, now.figure[v]);
            } else {
                mind.dress(v, now.kind[v], guess);
            }
            if (firstUntrueStock(shelves[d], v) == NONE) {
                bits |= 1 << guess;
            }
        }
        return bits;
    }

    public int two(int a, int b, int n) {
        if (!now.isThere(a) || !now.isThere(b) || a == b || n < 0 || n > DAYS_OF_TWO) {
            return NO_SUCH;
        }
        for (int pair = 0; pair < 4; pair++) {
            payPair(a, b, n, pair);
        }
        for (int pair = 0; pair < 4; pair++) {
            if (payOfOne[pair] >= payOfOne[pair ^ 2] && payOfOther[pair] >= payOfOther[pair ^ 1]) {
                return 10 * (pair >> 1) + (pair & 1);
            }
        }
        return NONE;
    }

    public long rain(int v, int n, int t, int part) {
        if (!now.isThere(v) || n < 0 || n > DAYS_OF_RAIN || t < 2 || t > 20 || !isPart(part)) {
            return LONG_REFUSAL - NO_SUCH;
        }
        long below = spreadChances(n, t);
        mind.become(now);
        mind.day += n;
        long above = 0;
        for (int place = 0; place < PLACES; place++) {
            mind.chair = place;
            if (mind.isAble(v)) {
                above += chances[place];
            }
        }
        return partOf(above, below, part);
    }

    public long mean(int part) {
        if (!isPart(part)) {
            return LONG_REFUSAL - NO_SUCH;
        }
        return partOf(now.allStock(), Math.max(1, now.villages), part);
    }

    // ---- told maps, years by seeds

    public int forged(int d) {
        int refusal = refuseRow(d);
        if (refusal != 0) {
            return refusal;
        }
        Shelf map = shelves[d];
        for (int i = 0; i < map.length; i++) {
            if (!now.isThere(i) || map.cells[i] != now.place[i]) {
                return i;
            }
        }
        return NONE;
    }

    public int judge(int d) {
        int refusal = refuseRow(d);
        if (refusal != 0) {
            return refusal;
        }
        mind.become(now);
        return firstUntrueStock(shelves[d], -1);
    }

    public int years(int n, int z, int what) {
        if (n < 1 || n > MOST_YEARS || what < 0 || what > 1) {
            return NO_SUCH;
        }
        int seed = z;
        int stock = 0;
        int nods = 0;
        for (int year = 0; year < n; year++) {
            mind.become(now);
            for (int v = 0; v < mind.villages; v++) {
                seed = seed * 1103515245 + 12345;
                mind.place[v] = (seed & ALL_BUT_SIGN) / 65536 % PLACES;
            }
            mind.goDays(DAYS_OF_A_YEAR);
            stock += mind.allStock();
            nods += mind.nods - now.nods;
        }
        return what == 0 ? stock : nods;
    }

    // ---- the image, what is told

    public int image() {
        image.become(now);
        imageTaken = true;
        return now.day;
    }

    public int restore() {
        if (!imageTaken) {
            return NOT_SO;
        }
        now.become(image);
        return now.day;
    }

    public int count(int what) {
        switch (what) {
            case 0: return now.villages;
            case 1: return now.day;
            case 2: return now.chair;
            case 3: return now.nods;
            case 4: return now.allStock();
            case 5: return now.step;
            case 6: return now.home;
            default: return NO_SUCH;
        }
    }

    // ---- shelves

    public int keep(int d, int what, int k, int figure) {
        if (!isShelf(d) || what < 0 || what > 1) {
            return NO_SUCH;
        }
        if (what == 0) {
            shelves[d].holds = Shelf.NOTHING;
            return 0;
        }
        if (!isKind(k) || !isFigure(figure)) {
            return NO_SUCH;
        }
        shelves[d].holdKind(k, figure);
        return 0;
    }

    public int row(int d, int sort, int n) {
        if (!isShelf(d) || sort < 0 || sort >= SORTS || n > MOST_ELEMENTS) {
            return NO_SUCH;
        }
        if (n < 0) {
            return SIZE_BELOW_0;
        }
        shelves[d].holdRow(sort, n);
        return 0;
    }

    public int put(int d, int i, int v) {
        int refusal = refuseRow(d);
        if (refusal != 0) {
            return refusal;
        }
        if (!shelves[d].hasPlaces(i, 1)) {
            return NO_PLACE;
        }
        shelves[d].set(i, v);
        return 0;
    }

    public long element(int d, int i) throws IllegalArgumentException, IllegalStateException {
        if (!isShelf(d)) {
            throw new IllegalArgumentException("no such shelf");
        }
        if (refuseRow(d) != 0) {
            throw new IllegalStateException("no row");
        }
        if (!shelves[d].hasPlaces(i, 1)) {
            throw new IllegalStateException("no such place");
        }
        return shelves[d].cells[i];
    }

    public int copy(int d, int i, int e, int j, int n) {
        if (!isShelf(d) || !isShelf(e)) {
            return NO_SUCH;
        }
        if (shelves[d].holds == Shelf.NOTHING || shelves[e].holds == Shelf.NOTHING) {
            return NOTHING_HELD;
        }
        if (refuseRow(d) != 0 || refuseRow(e) != 0 || shelves[d].sort != shelves[e].sort) {
            return OTHER_KIND;
        }
        if (!shelves[d].hasPlaces(i, n) || !shelves[e].hasPlaces(j, n)) {
            return NO_PLACE;
        }
        System.arraycopy(shelves[d].cells, i, shelves[e].cells, j, n);
        return n;
    }

    public int cost(int d) {
        int refusal = refuseKind(d);
        if (refusal != 0) {
            return refusal;
        }
        return kinds[shelves[d].kind].costs(shelves[d].figure);
    }

    public int toss(int d) {
        int refusal = refuseKind(d);
        if (refusal != 0) {
            return refusal;
        }
        int figure = shelves[d].figure;
        Village kind = kinds[shelves[d].kind];
        if (figure == 0) {
            return NO_FAILURE;
        }
        try {
            kind.fail();
        } catch (IllegalArgumentException failure) {
            return figure;
        } catch (IllegalStateException failureOfDoctors) {
            return 100 + figure;
        } catch (UnsupportedOperationException failureOfBishops) {
            return 200 + kind.costs(figure);
        }
        return NO_FAILURE;
    }

    // ---- ranges and refusals

    private static boolean isPlace(int place) {
        return place >= 0 && place < PLACES;
    }

    private static boolean isKind(int k) {
        return k >= 0 && k < KINDS;
    }

    private static boolean isFigure(int figure) {
        return figure >= 0 && figure < FIGURES;
    }

    private static boolean isShelf(int d) {
        return d >= 0 && d < SHELVES;
    }

    private static boolean isDaysOn(int n) {
        return n >= 0 && n <= DAYS_ON;
    }

    private static boolean isPart(int part) {
        return part == 0 || part == 1;
    }

    private int refuseRow(int d) {
        return refuseAllBut(d, Shelf.ROW);
    }

    private int refuseKind(int d) {
        return refuseAllBut(d, Shelf.KIND);
    }

    private int refuseAllBut(int d, int wanted) {
        if (!isShelf(d)) {
            return NO_SUCH;
        }
        if (shelves[d].holds == Shelf.NOTHING) {
            return NOTHING_HELD;
        }
        return shelves[d].holds == wanted ? 0 : OTHER_KIND;
    }

    // ---- the text

    /** The place of the byte with which no province can go on, -1 if there is none. */
    private static int placeOfFault(Shelf text) {
        int i = 0;
        do {
            int digits = i < text.length ? digitsBehind(text.cells[i]) : -1;
            if (digits < 0) {
                return i;
            }
            i++;
            for (int end = i + digits; i < end; i++) {
                if (i >= text.length || text.cells[i] < '0' || text.cells[i] > '9') {
                    return i;
                }
            }
            if (i >= text.length || text.cells[i] != ';') {
                return i;
            }
            i++;
        } while (i < text.length);
        return -1;
    }

    private static int digitsBehind(int letter) {
        switch (letter) {
            case 'v': return 5;
            case 's':
            case 'k': return 3;
            case 'c':
            case 'f':
            case 'd': return 2;
            default: return -1;
        }
    }

    /** Tells the statement at place i to the province in mind; whether it is as it must be. */
    private boolean isTold(Shelf text, int i) {
        int first = text.digit(i + 1);
        int second = text.digit(i + 2);
        switch (text.cells[i]) {
            case 'v': return mind.add(first, second, text.twoDigits(i + 3), text.digit(i + 5)) >= 0;
            case 'c': return mind.setChair(10 * first + second) >= 0;
            case 's': return mind.setSun(first, text.twoDigits(i + 2)) >= 0;
            case 'k': return mind.setStock(first, text.twoDigits(i + 2)) >= 0;
            case 'f': return mind.setFrom(first, second) >= 0;
            default:
                if (mind.refuseDays(10 * first + second) != 0) {
                    return false;
                }
                mind.goDays(10 * first + second);
                return true;
        }
    }

    // ---- what the questions lean on

    private static int far(int one, int other) {
        int apart = Math.abs(one - other);
        return apart > PLACES / 2 ? PLACES - apart : apart;
    }

    private void measureWaysBetween() {
        for (int v = 0; v < now.villages; v++) {
            for (int from = 0; from < now.villages; from++) {
                wayBetween[v * MOST_VILLAGES + from] = now.wayTo(v, now.place[from]);
            }
        }
    }

    /** Of each set of taken sources: the least that the villages not matched yet can need together. */
    private void measureLeastRests() {
        int all = (1 << now.villages) - 1;
        leastRest[all] = 0;
        for (int taken = all - 1; taken >= 0; taken--) {
            int v = Integer.bitCount(taken);
            int least = OUT_OF_REACH;
            for (int from = 0; from < now.villages; from++) {
                if (mayMatch(v, from, taken)) {
                    least = Math.min(least, waysThrough(v, from, taken));
                }
            }
            leastRest[taken] = least;
        }
    }

    private int matchedSource(int v) {
        int taken = 0;
        for (int one = 0; one < now.villages; one++) {
            int chosen = firstBestSource(one, taken);
            if (one == v) {
                return chosen;
            }
            taken |= 1 << chosen;
        }
        return NONE;
    }

    private int firstBestSource(int v, int taken) {
        for (int from = 0; from < now.villages; from++) {
            if (mayMatch(v, from, taken) && waysThrough(v, from, taken) == leastRest[taken]) {
                return from;
            }
        }
        return 0;
    }

    private static boolean mayMatch(int v, int from, int taken) {
        return from != v && (taken >> from & 1) == 0;
    }

    private int waysThrough(int v, int from, int taken) {
        int rest = leastRest[taken | 1 << from];
        return Math.min(OUT_OF_REACH, wayBetween[v * MOST_VILLAGES + from] + rest);
    }

    private int frontier() {
        int twos = 0;
        for (int a = 0; a < now.villages; a++) {
            for (int b = a + 1; b < now.villages; b++) {
                int apart = far(now.place[a], now.place[b]);
                int byChair = far(now.place[a], now.chair) + far(now.chair, now.place[b]);
                if (apart != PLACES / 2 && byChair == apart) {
                    twos++;
                }
            }
        }
        return twos;
    }

    private int longestChain() {
        int most = 0;
        for (int v = 0; v < now.villages; v++) {
            most = Math.max(most, now.lengthOfChain(v));
        }
        return most;
    }

    private boolean isSeenSo(Shelf seen, int step, int home) {
        mind.become(now);
        mind.step = step;
        mind.home = home;
        for (int n = 0; n < seen.length; n++) {
            if (!seen.isSkipped(n) && seen.cells[n] != mind.chair) {
                return false;
            }
            mind.moveChair();
        }
        return true;
    }

    /** The first day on which the one in mind (of -1: all) has not the stock that is told; spends the mind. */
    private int firstUntrueStock(Shelf told, int v) {
        for (int n = 0; n < told.length; n++) {
            int stock = v >= 0 ? mind.stock[v] : mind.allStock();
            if (!told.isSkipped(n) && told.cells[n] != stock) {
                return n;
            }
            mind.goDays(1);
        }
        return NONE;
    }

    private void payPair(int a, int b, int n, int pair) {
        boolean oneStays = pair >> 1 == 0;
        boolean otherStays = (pair & 1) == 0;
        mind.become(now);
        if (oneStays) {
            mind.from[a] = a;
        }
        if (otherStays) {
            mind.from[b] = b;
        }
        mind.goDays(n);
        payOfOne[pair] = mind.stock[a] + (oneStays ? FOR_STAYING : 0);
        payOfOther[pair] = mind.stock[b] + (otherStays ? FOR_STAYING : 0);
    }

    /** Fills the chances of each place behind n days; answers what they are shares of. */
    private long spreadChances(int n, int t) {
        Arrays.fill(chances, 0L);
        chances[now.chair] = 1;
        long whole = 1;
        for (int day = now.day + 1; day <= now.day + n; day++) {
            if (day % PLACES == 0) {
                Arrays.fill(chances, 0L);
                chances[now.home] = whole;
            } else {
                spreadOneDay(t);
                whole *= t;
            }
        }
        return whole;
    }

    private void spreadOneDay(int t) {
        for (int place = 0; place < PLACES; place++) {
            int before = (place + PLACES - now.step) % PLACES;
            chancesNext[place] = chances[place] + (t - 1) * chances[before];
        }
        System.arraycopy(chancesNext, 0, chances, 0, PLACES);
    }

    private static long partOf(long above, long below, int part) {
        long divisor = greatestDivisor(above, below);
        if (divisor < 1) {
            return LONG_REFUSAL - NO_SUCH;
        }
        return part == 0 ? above / divisor : below / divisor;
    }

    private static long greatestDivisor(long one, long other) {
        long a = one;
        long b = other;
        // Sixty steps are more than the greatest pair (below 20 to the 7th) can need.
        for (int i = 0; i < 60 && b != 0; i++) {
            long rest = a % b;
            a = b;
            b = rest;
        }
        return a;
    }

    // ---- kinds: each says only in what it differs from the one it is under

    private static class Village {
        /** The way round by the chair, straight, and from the chair on are measured by the province. */
        int wayOf(int byChair, int straight, int fromChair, int day) {
            return byChair;
        }

        int goesFar(int figure) {
            return 6 + figure / 3;
        }

        int brings(int figure) {
            return 3;
        }

        int eats(int figure) {
            return 2;
        }

        boolean nodsToHim() {
            return true;
        }

        int costs(int figure) {
            return 4;
        }

        /** Throws the failure of the kind; a kind that comes back has none. */
        void fail() {
            throw new IllegalArgumentException("a village fails");
        }
    }

    private static class Baker extends Village {
        // The 1 less is taken from the way by the chair itself: calls must not go too deep under an army.
        @Override
        int wayOf(int byChair, int straight, int fromChair, int day) {
            return byChair > 0 ? byChair - 1 : 0;
        }

        @Override
        int goesFar(int figure) {
            return super.goesFar(figure) + 2;
        }

        @Override
        int brings(int figure) {
            return figure;
        }

        @Override
        int eats(int figure) {
            return 1;
        }

        @Override
        int costs(int figure) {
            return super.costs(figure) + figure;
        }
    }

    private static class Doctor extends Village {
        @Override
        int wayOf(int byChair, int straight, int fromChair, int day) {
            return straight;
        }

        @Override
        int goesFar(int figure) {
            return figure;
        }

        @Override
        int brings(int figure) {
            return 2;
        }

        @Override
        int eats(int figure) {
            return 2;
        }

        @Override
        boolean nodsToHim() {
            return false;
        }

        @Override
        int costs(int figure) {
            return 9;
        }

        @Override
        void fail() {
            throw new IllegalStateException("a doctor fails");
        }
    }

    private static final class Hearse extends Doctor {
        @Override
        int wayOf(int byChair, int straight, int fromChair, int day) {
            return straight + fromChair;
        }

        @Override
        int goesFar(int figure) {
            return super.goesFar(figure) / 2;
        }

        @Override
        int eats(int figure) {
            return 0;
        }

        @Override
        int costs(int figure) {
            return super.costs(figure) / 2;
        }
    }

    private static class Bishop extends Baker {
        @Override
        int wayOf(int byChair, int straight, int fromChair, int day) {
            return 2 * super.wayOf(byChair, straight, fromChair, day);
        }

        @Override
        int goesFar(int figure) {
            return 2 * super.goesFar(figure);
        }

        @Override
        int brings(int figure) {
            return super.brings(figure) + 1;
        }

        @Override
        int eats(int figure) {
            return super.eats(figure) + figure / 3;
        }

        @Override
        int costs(int figure) {
            return 2 * super.costs(figure);
        }

        @Override
        void fail() {
            throw new UnsupportedOperationException("a bishop fails");
        }
    }

    private static final class Pedlar extends Village {
        @Override
        int wayOf(int byChair, int straight, int fromChair, int day) {
            return byChair / 2;
        }

        @Override
        int goesFar(int figure) {
            return 4;
        }

        @Override
        int brings(int figure) {
            return figure / 2;
        }

        @Override
        int eats(int figure) {
            return 1;
        }

        @Override
        int costs(int figure) {
            return 1;
        }

        @Override
        void fail() {
            // Pedlars have no failure.
        }
    }

    private static final class Army extends Bishop {
        @Override
        int wayOf(int byChair, int straight, int fromChair, int day) {
            return super.wayOf(byChair, straight, fromChair, day) + day % 2;
        }

        @Override
        int goesFar(int figure) {
            return super.goesFar(figure) + 1;
        }

        @Override
        int brings(int figure) {
            return 9;
        }

        @Override
        int eats(int figure) {
            return 2 * super.eats(figure);
        }

        @Override
        int costs(int figure) {
            return super.costs(figure) + 3;
        }
    }

    private static final class Hermit extends Doctor {
        @Override
        int goesFar(int figure) {
            return 0;
        }

        @Override
        int eats(int figure) {
            return super.eats(figure) - 1;
        }

        @Override
        int costs(int figure) {
            return 0;
        }
    }

    /** All that there is but shelves and the image: once as it is, once in mind, once as the image. */
    private static final class Province {
        private final Village[] kinds;
        private final int[] kind = new int[MOST_VILLAGES];
        private final int[] figure = new int[MOST_VILLAGES];
        private final int[] place = new int[MOST_VILLAGES];
        private final int[] from = new int[MOST_VILLAGES];
        private final int[] stock = new int[MOST_VILLAGES];
        // What kind and figure make of one, kept because every day in mind asks for it again.
        private final int[] goes = new int[MOST_VILLAGES];
        private final int[] brings = new int[MOST_VILLAGES];
        private final int[] eats = new int[MOST_VILLAGES];
        private int villages;
        private int chair;
        private int step = 1;
        private int home = 6;
        private int nods;
        private int day;

        Province(Village[] allKinds) {
            kinds = allKinds;
        }

        void become(Province other) {
            System.arraycopy(other.kind, 0, kind, 0, MOST_VILLAGES);
            System.arraycopy(other.figure, 0, figure, 0, MOST_VILLAGES);
            System.arraycopy(other.place, 0, place, 0, MOST_VILLAGES);
            System.arraycopy(other.from, 0, from, 0, MOST_VILLAGES);
            System.arraycopy(other.stock, 0, stock, 0, MOST_VILLAGES);
            System.arraycopy(other.goes, 0, goes, 0, MOST_VILLAGES);
            System.arraycopy(other.brings, 0, brings, 0, MOST_VILLAGES);
            System.arraycopy(other.eats, 0, eats, 0, MOST_VILLAGES);
            villages = other.villages;
            chair = other.chair;
            step = other.step;
            home = other.home;
            nods = other.nods;
            day = other.day;
        }

        boolean isThere(int v) {
            return v >= 0 && v < villages;
        }

        /** One more: its number. Room is looked at first: who comes last names itself, and 7 is no number. */
        int add(int newKind, int newFigure, int newPlace, int newFrom) {
            if (villages >= MOST_VILLAGES) {
                return NO_ROOM;
            }
            if (!isKind(newKind) || !isFigure(newFigure) || !isPlace(newPlace) || !isNumber(newFrom)) {
                return NO_SUCH;
            }
            int v = villages;
            villages++;
            place[v] = newPlace;
            from[v] = newFrom;
            stock[v] = FIRST_STOCK;
            dress(v, newKind, newFigure);
            return v;
        }

        void dress(int v, int newKind, int newFigure) {
            kind[v] = newKind;
            figure[v] = newFigure;
            goes[v] = kinds[newKind].goesFar(newFigure);
            brings[v] = kinds[newKind].brings(newFigure);
            eats[v] = kinds[newKind].eats(newFigure);
        }

        private static boolean isNumber(int v) {
            return v >= 0 && v < MOST_VILLAGES;
        }

        int setFrom(int v, int newFrom) {
            if (!isThere(v) || !isNumber(newFrom)) {
                return NO_SUCH;
            }
            int old = from[v];
            from[v] = newFrom;
            return old;
        }

        int setStock(int v, int s) {
            if (!isThere(v) || s < 0 || s > MOST_STOCK) {
                return NO_SUCH;
            }
            int old = stock[v];
            stock[v] = s;
            return old;
        }

        int setChair(int newPlace) {
            if (!isPlace(newPlace)) {
                return NO_SUCH;
            }
            int old = chair;
            chair = newPlace;
            return old;
        }

        int setSun(int newStep, int newHome) {
            if (newStep < 0 || newStep > MOST_STEP || !isPlace(newHome)) {
                return NO_SUCH;
            }
            int old = 100 * step + home;
            step = newStep;
            home = newHome;
            return old;
        }

        int refuseDays(int n) {
            if (n < 1 || n > DAYS_ON) {
                return NO_SUCH;
            }
            return day + n > LAST_DAY ? NOT_SO : 0;
        }

        boolean hasSource(int v) {
            return from[v] != v && isThere(from[v]);
        }

        int wayTo(int v, int to) {
            int fromChair = far(chair, to);
            int byChair = far(place[v], chair) + fromChair;
            return kinds[kind[v]].wayOf(byChair, far(place[v], to), fromChair, day);
        }

        int wayToSource(int v) {
            return wayTo(v, place[from[v]]);
        }

        /** Whether it CAN fetch. */
        boolean isAble(int v) {
            return hasSource(v) && wayTo(v, place[from[v]]) <= goes[v];
        }

        int ableBits() {
            int bits = 0;
            for (int v = 0; v < villages; v++) {
                bits |= isAble(v) ? 1 << v : 0;
            }
            return bits;
        }

        int allJammed() {
            int jammed = 0;
            for (int v = 0; v < villages; v++) {
                jammed += isAble(v) && kinds[kind[v]].nodsToHim() ? 1 : 0;
            }
            return jammed;
        }

        void goDays(int n) {
            for (int i = 0; i < n; i++) {
                moveChair();
                for (int v = 0; v < villages; v++) {
                    if (isAble(v)) {
                        carry(v, from[v]);
                    }
                    stock[v] = Math.max(0, stock[v] - eats[v]);
                }
            }
        }

        void moveChair() {
            day++;
            chair = day % PLACES == 0 ? home : (chair + step) % PLACES;
        }

        private void carry(int v, int source) {
            int taken = Math.min(brings[v], stock[source]);
            stock[source] -= taken;
            stock[v] = Math.min(MOST_STOCK, stock[v] + taken);
            if (kinds[kind[v]].nodsToHim()) {
                nods = Math.min(MOST_NODS, nods + 1);
            }
        }

        int allStock() {
            int all = 0;
            for (int v = 0; v < villages; v++) {
                all += stock[v];
            }
            return all;
        }

        int allWays() {
            int all = 0;
            for (int v = 0; v < villages; v++) {
                all += hasSource(v) ? wayToSource(v) : 0;
            }
            return all;
        }

        int allHungry() {
            int all = 0;
            for (int v = 0; v < villages; v++) {
                all += stock[v] == 0 ? 1 : 0;
            }
            return all;
        }

        int firstHungry() {
            for (int v = 0; v < villages; v++) {
                if (stock[v] == 0) {
                    return v;
                }
            }
            return NONE;
        }

        int lengthOfChain(int v) {
            int seen = 1 << v;
            int length = 1;
            int at = v;
            while (length < villages && hasSource(at) && (seen >> from[at] & 1) == 0) {
                at = from[at];
                seen |= 1 << at;
                length++;
            }
            return length;
        }
    }

    /** Holds nothing, a kind or a row; its cells are made once and serve every row that it gets. */
    private static final class Shelf {
        private static final int NOTHING = 0;
        private static final int KIND = 1;
        private static final int ROW = 2;
        private static final int BYTES = 0;
        private static final int SHORTS = 1;
        private static final int LEAST_BYTE = -128;
        private static final int LEAST_SHORT = -32768;
        private static final int LEAST_INT = -2147483648;

        private int holds = NOTHING;
        private int kind;
        private int figure;
        private int sort;
        private int length;
        private final int[] cells = new int[MOST_ELEMENTS];

        void holdKind(int newKind, int newFigure) {
            holds = KIND;
            kind = newKind;
            figure = newFigure;
        }

        void holdRow(int newSort, int newLength) {
            holds = ROW;
            sort = newSort;
            length = newLength;
            Arrays.fill(cells, 0);
        }

        /** Whether n elements stand from i on; said without a sum that could wrap around. */
        boolean hasPlaces(int i, int n) {
            return i >= 0 && n >= 0 && i <= length && n <= length - i;
        }

        void set(int i, int value) {
            switch (sort) {
                case BYTES:
                    cells[i] = (byte) value;
                    break;
                case SHORTS:
                    cells[i] = (short) value;
                    break;
                default:
                    cells[i] = value;
                    break;
            }
        }

        boolean isSkipped(int i) {
            switch (sort) {
                case BYTES: return cells[i] == LEAST_BYTE;
                case SHORTS: return cells[i] == LEAST_SHORT;
                default: return cells[i] == LEAST_INT;
            }
        }

        int digit(int i) {
            return i < length ? cells[i] - '0' : -1;
        }

        int twoDigits(int i) {
            return 10 * digit(i) + digit(i + 1);
        }
    }
}
