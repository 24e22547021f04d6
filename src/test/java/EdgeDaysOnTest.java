/** The boundary cases of promises 11 to 16: days on. */
public final class EdgeDaysOnTest {
    private static final Edge EDGE = new Edge();

    public static void main(String[] args) {
        inMind();
        daysOn();
        dayMayPass999();
        thenWhats();
        thenBits();
        thenRefused();
        stockThen();
        stockThenRefused();
        firstCanNow();
        firstCanLate();
        firstCanNever();
        firstCanRefused();
        hungryNow();
        hungryOnDay60();
        whoIsHungryFirst();
        nobodyIsHungry();
        hungryRefused();
        roundOfOneDay();
        roundLate();
        roundNever();
        wayNow();
        wayRefused();
        EDGE.end(11, 16);
    }

    private static final String SEVEN = "v17001;v02022;v23040;v35063;v48084;v56105;v69110;c01;k099;k103;k250;s205;d03;";

    private static long[] allAnswers(ChairOnTheRoad x) {
        return new long[] {x.then(9, 0), x.then(9, 1), x.then(9, 2), x.then(9, 3), x.stockThen(1, 9), x.firstCan(3),
            x.hungry(2), x.hungry(-1), x.round(), x.way(0, 7), x.sit(0), x.sit(1), x.sitFor(9), x.move(1, 9), x.fetch(1, 9),
            x.stepBest(9), x.match(-1), x.match(2), x.feed(9), x.shade(3), x.jam(0), x.jam(1), x.jam(2), x.chain(2),
            x.whereSat(0, 0), x.whatIs(0, 0, 0), x.two(0, 1, 9), x.rain(1, 5, 3, 0), x.rain(1, 5, 3, 1), x.mean(0),
            x.forged(0), x.judge(0), x.years(2, 9, 0), x.years(2, 9, 1)};
    }

    private static void inMind() {
        EDGE.of(11, "In mind");
        ChairOnTheRoad x = Due.told(SEVEN);
        x.keep(7, 0, 0, 0);
        Due.row(x, 0, 0, x.count(2), -128);
        String before = Due.all(x);
        String shelves = Edge.shelves(x);
        long[] first = allAnswers(x);
        Edge.askOther(x);
        long[] again = allAnswers(x);
        for (int i = 0; i < first.length; i++) {
            EDGE.is("question " + i + ", asked again", again[i], first[i]);
        }
        EDGE.isTrue("the province is as it was", before.equals(Due.all(x)));
        EDGE.isTrue("the shelves are as they were", shelves.equals(Edge.shelves(x)));
    }

    private static void daysOn() {
        EDGE.of(11, "n DAYS on (0 .. 60)");
        ChairOnTheRoad x = Due.told(SEVEN);
        EDGE.is("0 days on: the chair", x.then(0, 0), x.count(2));
        EDGE.is("0 days on: nods", x.then(0, 1), x.count(3));
        EDGE.is("0 days on: all stock", x.then(0, 3), x.count(4));
        for (int n : new int[] {1, 30, 59, 60}) {
            ChairOnTheRoad y = Due.told(SEVEN);
            int stock = y.days(n);
            EDGE.is(n + " days on: the chair", x.then(n, 0), y.count(2));
            EDGE.is(n + " days on: nods", x.then(n, 1), y.count(3));
            EDGE.is(n + " days on: who can", x.then(n, 2), y.then(0, 2));
            EDGE.is(n + " days on: all stock", x.then(n, 3), stock);
            for (int v = 0; v < 7; v++) {
                EDGE.is(n + " days on: stock of " + v, x.stockThen(v, n), y.village(v, 4));
            }
        }
    }

    private static void dayMayPass999() {
        EDGE.of(11, "(DAY may pass 999 there)");
        // On day 1008 the chair is at home, 7, and only there the hearse can fetch; then 1 a day further.
        ChairOnTheRoad x = Due.told("v30071;v10071;s107;" + "d60;".repeat(15));
        x.days(60);
        x.days(39);
        x.sits(8);
        x.stocks(0, 0);
        x.stocks(1, 40);
        EDGE.is("chair on day 1008", x.then(9, 0), 7);
        EDGE.is("chair on day 1059", x.then(60, 0), (7 + 51 % 12) % 12);
        EDGE.is("stock on day 1007", x.stockThen(0, 8), 0);
        EDGE.is("stock on day 1008", x.stockThen(0, 9), 2);
        // On days 1008, 1020 and 1032 the hearse has 2 each; by day 1033 the baker has eaten the rest.
        EDGE.is("all stock on day 1059", x.then(60, 3), 6);
        EDGE.is("first can", x.firstCan(0), 9);
        x.stocks(1, 20);
        EDGE.is("hungry behind 18 days", x.hungry(1), 18);
        x.sits(7);
        EDGE.is("round", x.round(), 9);
        EDGE.is("day is as it was", x.count(1), 999);
    }

    private static void thenWhats() {
        EDGE.of(11, "n DAYS on: where THE CHAIR is (what 0), NODS (1), who CAN (2, bits), all STOCK (3).");
        ChairOnTheRoad x = Due.told("v00001;v00001;s511;d02;");
        // The chair is 3 or less from both on days 2, 3, 5, 7, 9, 10 and 12.
        int[] now = {10, 1, 1, 12};
        int[] tenOn = {11, 7, 1, 0};
        for (int what = 0; what < 4; what++) {
            EDGE.is("then(0, " + what + ")", x.then(0, what), now[what]);
            EDGE.is("then(10, " + what + ")", x.then(10, what), tenOn[what]);
        }
        EDGE.is("of no villages", new ChairOnTheRoad().then(60, 3), 0);
    }

    private static void thenBits() {
        EDGE.of(11, "who CAN (bits)");
        ChairOnTheRoad x = Due.told("v00001;v00000;v00000;v00000;v00000;v00000;v00000;s000;");
        EDGE.is("all seven", x.then(0, 2), 127);
        EDGE.is("all seven on day 60", x.then(60, 2), 127);
        x.fetches(0, 0);
        EDGE.is("all but the first", x.then(1, 2), 126);
        x.fetches(6, 6);
        EDGE.is("all but the first and the last", x.then(1, 2), 62);
        EDGE.is("of no villages", new ChairOnTheRoad().then(1, 2), 0);
    }

    private static void thenRefused() {
        EDGE.of(11, "all STOCK (3). -1.");
        ChairOnTheRoad x = Due.told("v00000;");
        for (int bad : Edge.NO_DAYS_ON) {
            for (int what = 0; what < 4; what++) {
                EDGE.is("then(" + bad + ", " + what + ")", x.then(bad, what), -1);
            }
        }
        for (int bad : new int[] {-1, 4, Edge.MIN, Edge.MAX}) {
            EDGE.is("then(0, " + bad + ")", x.then(0, bad), -1);
            EDGE.is("then(60, " + bad + ")", x.then(60, bad), -1);
        }
        EDGE.isTrue("then(60, 3) is none", x.then(60, 3) == 0);
    }

    private static void stockThen() {
        EDGE.of(12, "STOCK n DAYS on.");
        ChairOnTheRoad x = Due.told("v10000;v30001;k061;k199;");
        EDGE.is("behind 0 days", x.stockThen(0, 0), 61);
        EDGE.is("behind 1 day", x.stockThen(0, 1), 60);
        EDGE.is("behind 60 days", x.stockThen(0, 60), 1);
        EDGE.is("of the other", x.stockThen(1, 60), 99);
    }

    private static void stockThenRefused() {
        EDGE.of(12, "STOCK n DAYS on. -1.");
        ChairOnTheRoad x = Due.told("v00000;v00000;");
        for (int bad : Edge.NO_DAYS_ON) {
            EDGE.is("stockThen(0, " + bad + ")", x.stockThen(0, bad), -1);
        }
        for (int bad : new int[] {-1, 2, 7, Edge.MIN, Edge.MAX}) {
            EDGE.is("stockThen(" + bad + ", 0)", x.stockThen(bad, 0), -1);
        }
    }

    private static void firstCanNow() {
        EDGE.of(13, "FIRST CAN: behind how many DAYS (0 .. 60) one CAN first");
        ChairOnTheRoad x = Due.told("v30001;v00001;c00;");
        Edge.askOther(x);
        EDGE.is("now", x.firstCan(0), 0);
        x.sits(11);
        Edge.askOther(x);
        EDGE.is("tomorrow", x.firstCan(0), 1);
        x.sits(0);
        x.moves(0, 11);
        x.moves(1, 11);
        EDGE.is("on day 11", x.firstCan(0), 11);
    }

    private static void firstCanLate() {
        EDGE.of(13, "behind how many DAYS (0 .. 60) one CAN first");
        // From 1 on days 1 to 11 the chair is at 1 .. 11; from home, 2 on day 12, it is at 0 on day 22.
        ChairOnTheRoad x = Due.told("v30001;v00001;s102;d01;");
        Edge.askOther(x);
        EDGE.is("22 less 1", x.firstCan(0), 21);
        // It is at 0 not before day 23 if home is 1: as late as can be.
        x.sun(1, 1);
        EDGE.is("23 less 1", x.firstCan(0), 22);
    }

    private static void firstCanNever() {
        EDGE.of(13, "one CAN first; -4.");
        ChairOnTheRoad x = Due.told("v70001;v00011;");
        EDGE.is("a hermit does not go", x.firstCan(0), -4);
        EDGE.is("who fetches from itself", x.firstCan(1), -4);
        x.fetches(1, 6);
        EDGE.is("who fetches from one not there", x.firstCan(1), -4);
        x = Due.told("v30001;v00001;c01;s202;");
        EDGE.is("a chair that is at even places from home on, at odd ones ahead", x.firstCan(0), 17);
        x.sun(2, 1);
        EDGE.is("a chair that is at odd places always", x.firstCan(0), -4);
    }

    private static void firstCanRefused() {
        EDGE.of(13, "FIRST CAN; -4. -1.");
        ChairOnTheRoad x = Due.told("v00000;");
        for (int bad : new int[] {-1, 1, 7, Edge.MIN, Edge.MAX}) {
            EDGE.is("firstCan(" + bad + ")", x.firstCan(bad), -1);
        }
        EDGE.is("of none", new ChairOnTheRoad().firstCan(0), -1);
    }

    private static void hungryNow() {
        EDGE.of(14, "HUNGRY: behind how many DAYS (0 .. 60) one has STOCK 0 first");
        ChairOnTheRoad x = Due.told("v00000;v30000;k000;k100;");
        Edge.askOther(x);
        EDGE.is("now", x.hungry(0), 0);
        EDGE.is("the other, now", x.hungry(1), 0);
        x.stocks(0, 2);
        EDGE.is("tomorrow", x.hungry(0), 1);
        x.stocks(0, 3);
        EDGE.is("behind two days", x.hungry(0), 2);
    }

    private static void hungryOnDay60() {
        EDGE.of(14, "behind how many DAYS (0 .. 60) one has STOCK 0 first; -4");
        ChairOnTheRoad x = Due.told("v10000;k059;");
        EDGE.is("behind 59 days", x.hungry(0), 59);
        x.stocks(0, 60);
        EDGE.is("behind 60 days", x.hungry(0), 60);
        EDGE.is("who", x.hungry(-1), 0);
        x.stocks(0, 61);
        EDGE.is("behind 61 days", x.hungry(0), -4);
        EDGE.is("nobody", x.hungry(-1), -4);
    }

    private static void whoIsHungryFirst() {
        EDGE.of(14, "who is HUNGRY first, of several the least; -4.");
        ChairOnTheRoad x = Due.told("v30000;v00001;v00002;v00003;k106;k205;k306;");
        Edge.askOther(x);
        EDGE.is("of three on one day the least", x.hungry(-1), 1);
        x.stocks(3, 4);
        EDGE.is("the earlier one, though greater", x.hungry(-1), 3);
        x.stocks(2, 0);
        EDGE.is("one now", x.hungry(-1), 2);
        x.stocks(0, 0);
        EDGE.is("the first one now", x.hungry(-1), 0);
    }

    private static void nobodyIsHungry() {
        EDGE.of(14, "HUNGRY: when (-4); who first (v -1; -4).");
        ChairOnTheRoad x = Due.told("v30000;v30001;k199;");
        EDGE.is("a hearse eats nothing", x.hungry(0), -4);
        EDGE.is("nobody", x.hungry(-1), -4);
        EDGE.is("nobody of none", new ChairOnTheRoad().hungry(-1), -4);
    }

    private static void hungryRefused() {
        EDGE.of(14, "-1 (v below -1, too).");
        ChairOnTheRoad x = Due.told("v00000;");
        for (int bad : new int[] {-2, 1, 7, Edge.MIN, Edge.MAX}) {
            EDGE.is("hungry(" + bad + ")", x.hungry(bad), -1);
        }
        EDGE.is("of none", new ChairOnTheRoad().hungry(0), -1);
    }

    private static void roundOfOneDay() {
        EDGE.of(15, "ROUND: behind how many DAYS (1 .. 60)");
        ChairOnTheRoad x = Due.told("s000;");
        EDGE.is("without steps", x.round(), 1);
        x.sun(1, 0);
        x.days(11);
        x.sits(0);
        Edge.askOther(x);
        EDGE.is("at home tomorrow", x.round(), 1);
        EDGE.is("day stays", x.count(1), 11);
    }

    private static void roundLate() {
        EDGE.of(15, "THE CHAIR is where it is now again");
        ChairOnTheRoad x = new ChairOnTheRoad();
        EDGE.is("home at 6, 6 more", x.round(), 18);
        x.sun(1, 1);
        EDGE.is("as late as can be", x.round(), 23);
        x.sun(1, 0);
        EDGE.is("all round", x.round(), 12);
        x.sun(5, 3);
        EDGE.is("from 3 on day 12 by nine steps of 5", x.round(), 21);
        x.sun(4, 1);
        EDGE.is("four by four", x.round(), 3);
    }

    private static void roundNever() {
        EDGE.of(15, "ROUND; -4.");
        ChairOnTheRoad x = Due.told("d11;c00;s006;");
        EDGE.is("it stays at home from tomorrow on", x.round(), -4);
        x.sun(2, 1);
        EDGE.is("at odd places from tomorrow on", x.round(), -4);
        x.sun(2, 2);
        EDGE.is("at even places from tomorrow on", x.round(), 6);
    }

    private static void wayNow() {
        EDGE.of(16, "WAY of one to a PLACE now.");
        ChairOnTheRoad x = Due.told("v60000;c00;");
        EDGE.is("to 0 on day 0", x.way(0, 0), 0);
        EDGE.is("to 11 on day 0", x.way(0, 11), 0);
        EDGE.is("to 10 on day 0", x.way(0, 10), 2);
        x.days(1);
        EDGE.is("to 1 on day 1, by the chair at 1", x.way(0, 1), 1);
        EDGE.is("to 0 on day 1, by the chair at 1", x.way(0, 0), 3);
        ChairOnTheRoad last = Due.told("v60000;s000;" + "d60;".repeat(16) + "d39;");
        EDGE.is("on day 999, odd", last.way(0, 0), 1);
    }

    private static void wayRefused() {
        EDGE.of(16, "-1 either.");
        ChairOnTheRoad x = Due.told("v00000;");
        for (int bad : new int[] {-1, 1, 7, Edge.MIN, Edge.MAX}) {
            EDGE.is("way(" + bad + ", 0)", x.way(bad, 0), -1);
        }
        for (int bad : Edge.NO_PLACES) {
            EDGE.is("way(0, " + bad + ")", x.way(0, bad), -1);
            EDGE.is("way(1, " + bad + ")", x.way(1, bad), -1);
        }
    }
}
