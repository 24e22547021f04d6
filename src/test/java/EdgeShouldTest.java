/** The boundary cases of promises 17 to 26: where he should sit, who should fetch from whom. */
public final class EdgeShouldTest {
    private static final Edge EDGE = new Edge();

    public static void main(String[] args) {
        sitOfSeveral();
        sitOfThoseWhoFetch();
        sitHowMuch();
        sitRefused();
        sitForOfSeveral();
        sitForNoDays();
        sitForAllDays();
        sitForRefused();
        moveOfSeveral();
        moveNoDays();
        moveAllDays();
        moveRefused();
        fetchOfSeveral();
        fetchMoreThanAsItIs();
        fetchNone();
        fetchAllDays();
        fetchRefused();
        stepBestOfSeveral();
        stepBestOfAll();
        stepBestDays();
        stepBestRefused();
        matchTwoOrMore();
        matchNotItself();
        matchNoTwoFromOne();
        matchFirst();
        matchLeastTogether();
        matchOfSeven();
        matchOfFewerAgain();
        matchRefused();
        matchRefusalsInOrder();
        feed99AtMost();
        feedFewerThanElse();
        feedOfSeveral();
        feedDays();
        feedRefused();
        shadeNoFarther();
        shadeRefused();
        jamCanAndNod();
        frontierAtEither();
        frontierNot6Apart();
        frontierLesserWay();
        jamMostInOneChain();
        jamRefused();
        chainComesAgain();
        chainNobody();
        chainRefused();
        EDGE.end(17, 26);
    }

    private static void sitOfSeveral() {
        EDGE.of(17, "SIT: the PLACE for THE CHAIR now by which all WAYS together (of those who fetch) are least, of several"
            + " the least");
        ChairOnTheRoad x = Due.told("v00031;v00051;c09;");
        EDGE.is("of 3, 4 and 5", x.sit(0), 3);
        x.moves(0, 11);
        x.moves(1, 1);
        EDGE.is("of 11, 0 and 1", x.sit(0), 0);
        x.moves(1, 10);
        EDGE.is("of 10 and 11", x.sit(0), 10);
        x.moves(1, 11);
        EDGE.is("of 11 alone", x.sit(0), 11);
        x.moves(1, 5);
        EDGE.is("of all", x.sit(0), 0);
        EDGE.is("the chair stays", x.count(2), 9);
    }

    private static void sitOfThoseWhoFetch() {
        EDGE.of(17, "(of those who fetch)");
        ChairOnTheRoad x = new ChairOnTheRoad();
        EDGE.is("none: the place", x.sit(0), 0);
        EDGE.is("none: how much", x.sit(1), 0);
        x = Due.told("v00052;v00071;v00090;v00036;c04;");
        // 0 from 2 and 2 from 0; 1 from itself and 3 from nobody do not count.
        EDGE.is("5 to 9 and 9 to 5: the place", x.sit(0), 5);
        EDGE.is("5 to 9 and 9 to 5: how much", x.sit(1), 8);
        x.fetches(0, 0);
        x.fetches(2, 6);
        EDGE.is("nobody fetches: the place", x.sit(0), 0);
        EDGE.is("nobody fetches: how much", x.sit(1), 0);
        x = Due.told("v30001;v00051;");
        EDGE.is("one that can't, but fetches: the place", x.sit(0), 5);
        EDGE.is("one that can't, but fetches: how much", x.sit(1), 5);
    }

    private static void sitHowMuch() {
        EDGE.of(17, "SIT: the PLACE (what 0), how much (1).");
        ChairOnTheRoad x = Due.told("v00001;v00000;v00000;v00000;v00000;v00000;v00000;c06;");
        EDGE.is("all at one place", x.sit(1), 0);
        x.moves(0, 6);
        // 0 to 1 and six to 0 are half round each, wherever the chair is.
        EDGE.is("all half round", x.sit(1), 42);
        ChairOnTheRoad army = Due.told("v60001;v60000;d01;");
        EDGE.is("two armies at one place on an odd day", army.sit(1), 2);
    }

    private static void sitRefused() {
        EDGE.of(17, "how much (1). -1.");
        ChairOnTheRoad x = Due.told("v00001;v00000;");
        for (int bad : new int[] {-1, 2, Edge.MIN, Edge.MAX}) {
            EDGE.is("sit(" + bad + ")", x.sit(bad), -1);
        }
    }

    /** A hearse and a baker at a place: what the hearse has fetched in time the baker does not eat. */
    private static ChairOnTheRoad hearse(int figure, String place, String more) {
        return Due.told("v3" + figure + place + "1;v10" + place + "1;k101;" + more);
    }

    private static void sitForOfSeveral() {
        EDGE.of(18, "SIT FOR DAYS: the PLACE for THE CHAIR now by which all STOCK together is most behind n DAYS (0 .. 60), of"
            + " several the least.");
        EDGE.is("11 alone", hearse(0, "11", "s000;").sitFor(1), 11);
        EDGE.is("0 alone", hearse(0, "00", "s000;c07;").sitFor(1), 0);
        EDGE.is("of 3 to 7", hearse(5, "05", "s000;").sitFor(1), 3);
        EDGE.is("of 9, 10, 11, 0, 1", hearse(5, "11", "s000;").sitFor(1), 0);
        EDGE.is("a step of 5 ahead of it", hearse(0, "11", "s500;").sitFor(1), 6);
        EDGE.is("wherever it is, at home tomorrow", hearse(0, "11", "s011;d11;k101;").sitFor(1), 0);
        ChairOnTheRoad x = hearse(0, "11", "s000;c04;");
        x.sitFor(1);
        EDGE.is("the chair stays", x.count(2), 4);
        EDGE.is("of no villages", new ChairOnTheRoad().sitFor(60), 0);
    }

    private static void sitForNoDays() {
        EDGE.of(18, "all STOCK together is most behind n DAYS (0 .. 60)");
        EDGE.is("behind 0 days all are as good", hearse(0, "11", "s000;c11;").sitFor(0), 0);
    }

    private static void sitForAllDays() {
        EDGE.of(18, "most behind n DAYS (0 .. 60)");
        // On days 1 to 11 the hearse saves 2 a day from the baker, then the chair is at home, elsewhere.
        EDGE.is("behind 60 days", hearse(0, "11", "s006;k140;").sitFor(60), 11);
        EDGE.is("nothing to save: behind 60 days all are as good", hearse(0, "11", "s006;k100;").sitFor(60), 0);
    }

    private static void sitForRefused() {
        EDGE.of(18, "SIT FOR DAYS. -1.");
        for (int bad : Edge.NO_DAYS_ON) {
            EDGE.is("sitFor(" + bad + ")", Due.told("v00000;").sitFor(bad), -1);
        }
    }

    private static void moveOfSeveral() {
        EDGE.of(19, "MOVE: the PLACE for one now by which its STOCK is most behind n DAYS (0 .. 60), of several the least.");
        ChairOnTheRoad x = Due.told("v21081;v30061;k150;");
        EDGE.is("of 5, 6, 7", x.move(0, 1), 5);
        x.moves(1, 11);
        EDGE.is("of 10, 11, 0", x.move(0, 1), 0);
        x.moves(1, 10);
        EDGE.is("of 9, 10, 11", x.move(0, 1), 9);
        x.stocks(1, 0);
        EDGE.is("of all", x.move(0, 1), 0);
        EDGE.is("it stays", x.village(0, 2), 8);
        x = Due.told("v20001;v30111;k150;");
        EDGE.is("11 alone", x.move(0, 1), 11);
        EDGE.is("of one that is fetched from by others", x.move(1, 1), 1);
    }

    private static void moveNoDays() {
        EDGE.of(19, "its STOCK is most behind n DAYS (0 .. 60)");
        EDGE.is("behind 0 days all are as good", Due.told("v20001;v30111;k150;").move(0, 0), 0);
        EDGE.is("behind 1 day", Due.told("v20001;v30111;k150;").move(0, 1), 11);
    }

    private static void moveAllDays() {
        EDGE.of(19, "most behind n DAYS (0 .. 60)");
        ChairOnTheRoad x = Due.told("v32001;v30061;c06;s006;k199;");
        EDGE.is("behind 60 days", x.move(0, 60), 5);
        // A doctor fetches 2 and eats 2; 99 last 49 days and a half, so it has nothing from day 55 on.
        x = Due.told("v20001;v30061;k199;");
        EDGE.is("behind 54 days it has 1 there alone", x.move(0, 54), 6);
        EDGE.is("behind 55 days it has nothing anywhere", x.move(0, 55), 0);
    }

    private static void moveRefused() {
        EDGE.of(19, "MOVE. -1.");
        ChairOnTheRoad x = Due.told("v00000;v00000;");
        for (int bad : Edge.NO_DAYS_ON) {
            EDGE.is("move(0, " + bad + ")", x.move(0, bad), -1);
        }
        for (int bad : new int[] {-1, 2, 7, Edge.MIN, Edge.MAX}) {
            EDGE.is("move(" + bad + ", 0)", x.move(bad, 0), -1);
        }
    }

    private static void fetchOfSeveral() {
        EDGE.of(20, "FETCH: from whom one had better FETCH so that its STOCK is most behind n DAYS (0 .. 60), more than as it is,"
            + " of several the least; -4.");
        ChairOnTheRoad x = Due.told("v30000;v30001;v19002;v30003;s000;k002;k102;k220;k302;");
        EDGE.is("2 from 0, 1, 3 alike", x.fetch(2, 1), 0);
        x.stocks(0, 1);
        EDGE.is("2 from 1 or 3", x.fetch(2, 1), 1);
        x.stocks(1, 1);
        EDGE.is("2 from 3", x.fetch(2, 1), 3);
        EDGE.is("it fetches as it did", x.village(2, 3), 2);
    }

    private static void fetchMoreThanAsItIs() {
        EDGE.of(20, "more than as it is");
        ChairOnTheRoad x = Due.told("v19001;v30001;v30002;s000;k105;k205;");
        EDGE.is("from the other as much", x.fetch(0, 1), -4);
        x.stocks(2, 6);
        EDGE.is("from the other 1 more", x.fetch(0, 1), 2);
        x.stocks(2, 4);
        EDGE.is("from the other 1 less", x.fetch(0, 1), -4);
        x.stocks(0, 99);
        x.stocks(2, 99);
        EDGE.is("99 is the most it can have", x.fetch(0, 1), -4);
    }

    private static void fetchNone() {
        EDGE.of(20, "FETCH; -4.");
        ChairOnTheRoad x = Due.told("v19001;v30001;v30002;s000;k105;k299;");
        EDGE.is("behind 0 days", x.fetch(0, 0), -4);
        EDGE.is("behind 1 day", x.fetch(0, 1), 2);
        EDGE.is("alone", Due.told("v19000;").fetch(0, 9), -4);
        EDGE.is("alone, from nobody", Due.told("v19006;").fetch(0, 9), -4);
        EDGE.is("others are too far", Due.told("v70000;v00011;").fetch(0, 9), -4);
    }

    private static void fetchAllDays() {
        EDGE.of(20, "its STOCK is most behind n DAYS (0 .. 60)");
        ChairOnTheRoad x = Due.told("v19000;v30001;s000;k050;k199;");
        EDGE.is("behind 60 days", x.fetch(0, 60), 1);
        x.stocks(0, 20);
        x.stocks(1, 40);
        EDGE.is("behind 59 days it has 1 of 60", x.fetch(0, 59), 1);
        EDGE.is("behind 60 days it has nothing anyway", x.fetch(0, 60), -4);
    }

    private static void fetchRefused() {
        EDGE.of(20, "FETCH; -4. -1.");
        ChairOnTheRoad x = Due.told("v00000;v00000;");
        for (int bad : Edge.NO_DAYS_ON) {
            EDGE.is("fetch(0, " + bad + ")", x.fetch(0, bad), -1);
        }
        for (int bad : new int[] {-1, 2, 7, Edge.MIN, Edge.MAX}) {
            EDGE.is("fetch(" + bad + ", 0)", x.fetch(bad, 0), -1);
        }
    }

    private static void stepBestOfSeveral() {
        EDGE.of(21, "STEP BEST: the STEP by which all STOCK is most behind n DAYS (0 .. 60), of several the least.");
        // The hearse goes 2: the chair must be 9, 10, 11, 0 or 1 tomorrow.
        ChairOnTheRoad x = hearse(5, "11", "c07;");
        EDGE.is("of 2 to 5 steps from 7", x.stepBest(1), 2);
        x.sits(9);
        EDGE.is("of 0 to 4 steps from 9", x.stepBest(1), 0);
        x.sits(3);
        EDGE.is("none will do: of all", x.stepBest(1), 0);
        EDGE.is("the step stays", x.count(5), 1);
        EDGE.is("of no villages", new ChairOnTheRoad().stepBest(60), 0);
    }

    private static void stepBestOfAll() {
        EDGE.of(21, "STEP (0 .. 5; 1 at first)");
        for (int step = 0; step <= 5; step++) {
            ChairOnTheRoad x = hearse(0, "11", "");
            x.sits(11 - step);
            EDGE.is("from " + (11 - step), x.stepBest(1), step);
        }
        ChairOnTheRoad x = hearse(0, "11", "c05;");
        EDGE.is("6 steps there are none", x.stepBest(1), 0);
    }

    private static void stepBestDays() {
        EDGE.of(21, "all STOCK is most behind n DAYS (0 .. 60)");
        EDGE.is("behind 0 days", hearse(0, "11", "c06;").stepBest(0), 0);
        EDGE.is("behind 1 day", hearse(0, "11", "c06;").stepBest(1), 5);
        EDGE.is("behind 60 days", hearse(0, "11", "c06;s000;").stepBest(60), 5);
        EDGE.is("wherever it goes, at home tomorrow", hearse(0, "11", "s011;d11;k101;").stepBest(1), 0);
    }

    private static void stepBestRefused() {
        EDGE.of(21, "STEP BEST. -1.");
        for (int bad : Edge.NO_DAYS_ON) {
            EDGE.is("stepBest(" + bad + ")", Due.told("v00000;").stepBest(bad), -1);
        }
    }

    private static void matchTwoOrMore() {
        EDGE.of(22, "MATCH: how much (v -1; -4 fewer than two VILLAGES), from whom one fetches (-4 likewise).");
        EDGE.is("of none: how much", new ChairOnTheRoad().match(-1), -4);
        ChairOnTheRoad x = Due.told("v00030;");
        EDGE.is("of one: how much", x.match(-1), -4);
        EDGE.is("of one: from whom", x.match(0), -4);
        x = Due.told("v00030;v00031;");
        EDGE.is("of two: how much", x.match(-1), 12);
        EDGE.is("of two: 0 from", x.match(0), 1);
        EDGE.is("of two: 1 from", x.match(1), 0);
        EDGE.is("they fetch as they did", x.village(1, 3), 1);
    }

    private static void matchNotItself() {
        EDGE.of(22, "none from itself");
        ChairOnTheRoad x = Due.told("v20000;v20060;v20000;v20060;");
        EDGE.is("at one place another", x.match(-1), 0);
        int[] due = {2, 3, 0, 1};
        for (int v = 0; v < 4; v++) {
            EDGE.is("match(" + v + ")", x.match(v), due[v]);
        }
        x = Due.told("v20000;v20060;");
        EDGE.is("not 0, as from itself", x.match(-1), 12);
    }

    private static void matchNoTwoFromOne() {
        EDGE.of(22, "no two from one");
        // Both 0 and 2 have 1 the nearest.
        ChairOnTheRoad x = Due.told("v20020;v20030;v20040;");
        EDGE.is("2, 3, 4 round: 1, 1 and 2", x.match(-1), 4);
        int[] due = {1, 2, 0};
        for (int v = 0; v < 3; v++) {
            EDGE.is("match(" + v + ")", x.match(v), due[v]);
        }
    }

    private static void matchFirst() {
        EDGE.of(22, "from whom one fetches by the first such (by VILLAGES, the least one)");
        ChairOnTheRoad x = Due.told("v20000;v20000;v20000;v20000;v20000;");
        int[] five = {1, 0, 3, 4, 2};
        for (int v = 0; v < 5; v++) {
            EDGE.is("of five at one place, " + v, x.match(v), five[v]);
        }
        x = Due.told("v20000;v20000;v20000;v20050;");
        // 3 has to go 5 and one has to go 5 to it, whoever that is; 1, 0, 3, 2 is the first of them.
        int[] four = {1, 0, 3, 2};
        for (int v = 0; v < 4; v++) {
            EDGE.is("of three at one place and one, " + v, x.match(v), four[v]);
        }
    }

    private static void matchLeastTogether() {
        EDGE.of(22, "so that all WAYS together (now) are least (two or more VILLAGES)");
        // If 0 and 1 fetched from one another, 2 and 3 would have to go 3 each.
        ChairOnTheRoad x = Due.told("v20000;v20010;v20110;v20020;");
        EDGE.is("how much", x.match(-1), 4);
        int[] due = {2, 3, 0, 1};
        for (int v = 0; v < 4; v++) {
            EDGE.is("match(" + v + ")", x.match(v), due[v]);
        }
        x = Due.told("v60000;v00000;c00;");
        EDGE.is("an army on an even day", x.match(-1), 0);
        x.days(1);
        EDGE.is("an army on an odd day, by the chair at 1", x.match(-1), 3 + 2);
    }

    private static void matchOfSeven() {
        EDGE.of(22, "every VILLAGE FETCHING from another one");
        int[] places = {0, 2, 4, 6, 8, 10, 1};
        ChairOnTheRoad x = Due.told("v20000;v20020;v20040;v20060;v20080;v20100;v20010;");
        int[] least = {Edge.MAX};
        int[] due = new int[7];
        tryAll(places, new int[7], 0, 0, least, due);
        EDGE.is("how much", x.match(-1), least[0]);
        for (int v = 0; v < 7; v++) {
            EDGE.is("match(" + v + ")", x.match(v), due[v]);
        }
    }

    /** All ways to match doctors, by VILLAGES the least first: how much the least is, and the first such. */
    private static void tryAll(int[] places, int[] from, int v, int sum, int[] least, int[] first) {
        if (v == places.length) {
            if (sum < least[0]) {
                least[0] = sum;
                System.arraycopy(from, 0, first, 0, from.length);
            }
            return;
        }
        for (int u = 0; u < places.length; u++) {
            boolean free = u != v;
            for (int w = 0; w < v; w++) {
                free &= from[w] != u;
            }
            if (free) {
                int apart = Math.abs(places[v] - places[u]);
                from[v] = u;
                tryAll(places, from, v + 1, sum + Math.min(apart, 12 - apart), least, first);
            }
        }
    }

    private static void matchOfFewerAgain() {
        EDGE.of(22, "RESTORED all is as it was then.");
        ChairOnTheRoad x = Due.told("v20000;v20030;");
        x.image();
        for (int place : new int[] {6, 9, 1, 7, 4}) {
            x.keep(0, 1, 2, 0);
            x.comes(0, place);
            EDGE.isTrue("of more", x.match(-1) > 0);
        }
        x.restore();
        EDGE.is("of two again: how much", x.match(-1), 6);
        EDGE.is("of two again: 0 from", x.match(0), 1);
        EDGE.is("of two again: 1 from", x.match(1), 0);
    }

    private static void matchRefused() {
        EDGE.of(22, "-1 first (v below -1, no such one, too).");
        ChairOnTheRoad x = Due.told("v00000;v00000;");
        for (int bad : new int[] {-2, 2, 7, Edge.MIN, Edge.MAX}) {
            EDGE.is("match(" + bad + ")", x.match(bad), -1);
        }
    }

    private static void matchRefusalsInOrder() {
        EDGE.of(22, "-1 first");
        EDGE.is("no such one of none", new ChairOnTheRoad().match(0), -1);
        EDGE.is("v below -1 of none", new ChairOnTheRoad().match(-2), -1);
        EDGE.is("no such one of one", Due.told("v00000;").match(1), -1);
        EDGE.is("v below -1 of one", Due.told("v00000;").match(-2), -1);
    }

    private static void feed99AtMost() {
        EDGE.of(23, "FEED: the VILLAGE which, with STOCK 20 more (99 at most) now");
        ChairOnTheRoad x = Due.told("v00000;k079;");
        EDGE.is("79 and 20 is 99: 1 behind 49 days", x.feed(49), 0);
        EDGE.is("nothing behind 50 days", x.feed(50), -4);
        x.stocks(0, 95);
        EDGE.is("95 and 20 is 99: 1 behind 49 days", x.feed(49), 0);
        EDGE.is("nothing behind 50 days", x.feed(50), -4);
        EDGE.is("stock stays", x.village(0, 4), 95);
        x.stocks(0, 0);
        EDGE.is("20: 2 behind 9 days", x.feed(9), 0);
        EDGE.is("20: nothing behind 10 days", x.feed(10), -4);
        x = Due.told("v10000;k000;");
        EDGE.is("20 by ones: 1 behind 19 days", x.feed(19), 0);
        EDGE.is("20 by ones: nothing behind 20 days", x.feed(20), -4);
    }

    private static void feedFewerThanElse() {
        EDGE.of(23, "fewer than else");
        ChairOnTheRoad x = Due.told("v30000;v30001;");
        EDGE.is("nobody is hungry", x.feed(60), -4);
        x.stocks(1, 0);
        EDGE.is("one is", x.feed(60), 1);
        EDGE.is("all are, fed or not", Due.told("v00000;v00001;").feed(15), -4);
        EDGE.is("of no villages", new ChairOnTheRoad().feed(0), -4);
    }

    private static void feedOfSeveral() {
        EDGE.of(23, "lets fewest be HUNGRY (STOCK 0) behind n DAYS (0 .. 60), fewer than else, of several the least; -4.");
        ChairOnTheRoad x = Due.told("v30000;v00001;v00002;v00003;k100;k200;k300;");
        EDGE.is("of 1, 2, 3 alike", x.feed(1), 1);
        x = Due.told("v00000;v00001;v00002;v19003;s000;k000;k100;k200;k300;");
        EDGE.is("each feeds itself", x.feed(1), 0);
        x.fetches(1, 2);
        x.fetches(3, 2);
        EDGE.is("2 feeds 1, 3 and itself", x.feed(1), 2);
    }

    private static void feedDays() {
        EDGE.of(23, "(STOCK 0) behind n DAYS (0 .. 60)");
        ChairOnTheRoad x = Due.told("v10000;k041;");
        EDGE.is("41 and 20: 1 behind 60 days", x.feed(60), 0);
        x.stocks(0, 40);
        EDGE.is("40 and 20: nothing behind 60 days", x.feed(60), -4);
        x.stocks(0, 0);
        EDGE.is("behind 0 days", x.feed(0), 0);
        x.stocks(0, 1);
        EDGE.is("1 is not hungry behind 0 days", x.feed(0), -4);
    }

    private static void feedRefused() {
        EDGE.of(23, "FEED; -4. -1.");
        for (int bad : Edge.NO_DAYS_ON) {
            EDGE.is("feed(" + bad + ")", Due.told("v00000;k000;").feed(bad), -1);
        }
    }

    private static void shadeNoFarther() {
        EDGE.of(24, "SHADE: VILLAGES (bits) no farther than r (0 .. 6) from THE CHAIR.");
        ChairOnTheRoad x = Due.told("v00000;v00010;v00020;v00090;v00080;v00070;v00060;");
        int[] due = {1, 3, 7, 15, 31, 63, 127};
        for (int r = 0; r <= 6; r++) {
            EDGE.is("shade(" + r + ")", x.shade(r), due[r]);
        }
        x.sits(4);
        EDGE.is("shade(0) where nobody is", x.shade(0), 0);
        EDGE.is("shade(6) from anywhere", x.shade(6), 127);
        EDGE.is("of no villages", new ChairOnTheRoad().shade(6), 0);
    }

    private static void shadeRefused() {
        EDGE.of(24, "SHADE (bits). -1.");
        for (int bad : new int[] {-1, 7, Edge.MIN, Edge.MAX}) {
            EDGE.is("shade(" + bad + ")", Due.told("v00000;").shade(bad), -1);
        }
    }

    private static void jamCanAndNod() {
        EDGE.of(25, "JAM: how many CAN and NOD now.");
        for (int kind = 0; kind < 8; kind++) {
            ChairOnTheRoad x = Due.told("v" + kind + "9001;v00001;");
            EDGE.is("one of kind " + kind + " that can", x.jam(0), kind == 2 || kind == 3 || kind == 7 ? 0 : 1);
            x.fetches(0, 0);
            EDGE.is("one of kind " + kind + " that can't", x.jam(0), 0);
        }
        ChairOnTheRoad x = Due.told("v00001;v00000;v00000;v00000;v00000;v00000;v00000;c03;");
        EDGE.is("all seven just can", x.jam(0), 7);
        x.sits(4);
        EDGE.is("none can", x.jam(0), 0);
        EDGE.is("of no villages", new ChairOnTheRoad().jam(0), 0);
    }

    private static void frontier(String what, String one, String other, int... chairs) {
        ChairOnTheRoad x = Due.told("v00" + one + "0;v00" + other + "0;");
        for (int chair = 0; chair < 12; chair++) {
            x.sits(chair);
            int due = 0;
            for (int c : chairs) {
                due |= c == chair ? 1 : 0;
            }
            EDGE.is(what + ", the chair at " + chair, x.jam(1), due);
        }
    }

    private static void frontierAtEither() {
        EDGE.of(25, "(or at either; not 6 apart)");
        frontier("3 and 5", "03", "05", 3, 4, 5);
        frontier("5 and 3", "05", "03", 3, 4, 5);
        frontier("11 and 0", "11", "00", 11, 0);
        frontier("both at 7", "07", "07", 7);
        frontier("5 apart", "10", "03", 10, 11, 0, 1, 2, 3);
    }

    private static void frontierNot6Apart() {
        EDGE.of(25, "not 6 apart");
        frontier("0 and 6", "00", "06");
        frontier("9 and 3", "09", "03");
        frontier("5 and 11", "05", "11");
    }

    private static void frontierLesserWay() {
        EDGE.of(25, "FRONTIER: how many twos of VILLAGES have THE CHAIR on the lesser way round between them");
        frontier("7 apart is 5", "00", "07", 7, 8, 9, 10, 11, 0);
        frontier("11 apart is 1", "00", "11", 11, 0);
        ChairOnTheRoad x = Due.told("v00000;v00000;v00000;v00000;v00000;v00000;v00000;");
        EDGE.is("21 twos at one place", x.jam(1), 21);
        x.sits(1);
        EDGE.is("not at any", x.jam(1), 0);
        EDGE.is("one is no two", Due.told("v00000;").jam(1), 0);
        EDGE.is("of no villages", new ChairOnTheRoad().jam(1), 0);
    }

    private static void jamMostInOneChain() {
        EDGE.of(25, "the most in one CHAIN (2; 0 none)");
        EDGE.is("of no villages", new ChairOnTheRoad().jam(2), 0);
        EDGE.is("of one", Due.told("v00000;").jam(2), 1);
        EDGE.is("of two, each from itself", Due.told("v00000;v00001;").jam(2), 1);
        EDGE.is("of three, the last the longest", Due.told("v00000;v00000;v00001;").jam(2), 3);
        EDGE.is("of seven in a round", Due.told("v00006;v00000;v00001;v00002;v00003;v00004;v00005;").jam(2), 7);
    }

    private static void jamRefused() {
        EDGE.of(25, "(2; 0 none). -1.");
        for (int bad : new int[] {-1, 3, Edge.MIN, Edge.MAX}) {
            EDGE.is("jam(" + bad + ")", Due.told("v00000;").jam(bad), -1);
        }
    }

    private static void chainComesAgain() {
        EDGE.of(26, "CHAINS: from one to whom it fetches from, on and on, till one comes again");
        ChairOnTheRoad x = Due.told("v00001;v00002;v00003;v00002;v00004;");
        int[] due = {4, 3, 2, 2, 1};
        for (int v = 0; v < 5; v++) {
            EDGE.is("chain(" + v + ")", x.chain(v), due[v]);
        }
        x = Due.told("v00001;v00002;v00003;v00004;v00005;v00006;v00000;");
        EDGE.is("all round", x.chain(0), 7);
        EDGE.is("all round from the last", x.chain(6), 7);
        x.fetches(6, 6);
        EDGE.is("to the last, which fetches from itself", x.chain(0), 7);
        EDGE.is("the last alone", x.chain(6), 1);
    }

    private static void chainNobody() {
        EDGE.of(26, "or there is nobody: how many there are, it counted.");
        ChairOnTheRoad x = Due.told("v00001;v00002;v00003;");
        int[] due = {3, 2, 1};
        for (int v = 0; v < 3; v++) {
            EDGE.is("chain(" + v + ")", x.chain(v), due[v]);
        }
        x.keep(0, 1, 0, 0);
        x.comes(0, 0);
        EDGE.is("there is somebody now", x.chain(2), 2);
        EDGE.is("one more", x.chain(0), 4);
    }

    private static void chainRefused() {
        EDGE.of(26, "CHAINS: how many in that of one. -1.");
        ChairOnTheRoad x = Due.told("v00001;v00000;");
        for (int bad : new int[] {-1, 2, 7, Edge.MIN, Edge.MAX}) {
            EDGE.is("chain(" + bad + ")", x.chain(bad), -1);
        }
        EDGE.is("of no villages", new ChairOnTheRoad().chain(0), -1);
    }
}
