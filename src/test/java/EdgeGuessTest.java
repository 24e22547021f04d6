/** The boundary cases of promises 27 to 34: where he sat, what kind one is, told maps, years by seeds. */
public final class EdgeGuessTest {
    private static final Edge EDGE = new Edge();
    private static final int[] LEAST = {-128, -32768, Edge.MIN};
    private static final long REFUSED = 1000000001L;

    public static void main(String[] args) {
        whereSatSkipped();
        whereSatAsNow();
        whereSatLeastAndGreatest();
        whereSatHowMany();
        whereSatRefused();
        whereSatShelf();
        whatIsSkipped();
        whatIsKinds();
        whatIsFigures();
        whatIsRefused();
        whatIsShelf();
        twoForStaying();
        twoGoesAsItDoes();
        twoFirstPair();
        twoNone();
        twoDays();
        twoRefused();
        rainDays();
        rainOdds();
        rainAtHome();
        rainLeastTerms();
        rainRefused();
        refusalsOfLongs();
        meanLeastTerms();
        meanOfNoVillages();
        meanRefused();
        forgedNoSuchVillage();
        forgedNothingSkipped();
        forgedRefused();
        judgeSkipped();
        judgeFirstNotSo();
        judgeRefused();
        yearsEachFromNow();
        yearsOfTwelveDays();
        yearsNods();
        yearsDraw();
        yearsDrawBelow12();
        yearsRefused();
        EDGE.end(27, 34);
    }

    private static void sat(String what, ChairOnTheRoad x, long many, long least, long greatest) {
        EDGE.is(what + ": how many", x.whereSat(0, 0), many);
        EDGE.is(what + ": the least", x.whereSat(0, 1), least);
        EDGE.is(what + ": the greatest", x.whereSat(0, 2), greatest);
    }

    private static void whereSatSkipped() {
        EDGE.of(27, "(the least number of the SORT is skipped)");
        for (int sort = 0; sort < 3; sort++) {
            ChairOnTheRoad x = Due.told("c07;");
            for (int least = 0; least <= sort; least++) {
                Due.row(x, 0, sort, LEAST[least], 9);
                if (least == sort) {
                    sat("sort " + sort, x, 12, 200, 211);
                } else {
                    sat("sort " + sort + ", the least of another", x, 0, -4, -4);
                }
                Due.row(x, 0, sort, 7, LEAST[least] + 1);
                sat("sort " + sort + ", 1 above the least", x, 0, -4, -4);
            }
            Due.row(x, 0, sort, LEAST[sort], LEAST[sort], LEAST[sort]);
            sat("sort " + sort + ", all skipped", x, 72, 0, 511);
        }
    }

    private static void whereSatAsNow() {
        EDGE.of(27, "(THE CHAIR, DAY as now)");
        ChairOnTheRoad x = Due.told("d10;c07;s304;");
        Due.row(x, 0, 0, 7);
        sat("where it is now", x, 72, 0, 511);
        Due.row(x, 0, 0, 6);
        sat("where it is not now", x, 0, -4, -4);
        Due.row(x, 0, 0, 7, 9);
        sat("day 11", x, 12, 200, 211);
        Due.row(x, 0, 0, 7, 9, 9);
        sat("home on day 12", x, 1, 209, 209);
        Due.row(x, 0, 0, 7, -128, 5);
        sat("home on day 12, whatever the step", x, 6, 5, 505);
        EDGE.is("step and home stay", x.sun(0, 0), 304);
        x.row(0, 0, 100);
        for (int i = 0; i < 99; i++) {
            x.put(0, i, -128);
        }
        // The hundredth tells day 109, one behind home on day 108.
        x.put(0, 99, 3);
        sat("day 109", x, 6, 3, 510);
    }

    private static void whereSatLeastAndGreatest() {
        EDGE.of(27, "the least, the greatest (100 STEP and HOME; -4)");
        ChairOnTheRoad x = Due.told("c00;");
        x.row(0, 0, 0);
        sat("nothing told", x, 72, 0, 511);
        Due.row(x, 0, 0, 0, 0);
        sat("the least step", x, 12, 0, 11);
        Due.row(x, 0, 0, 0, 5);
        sat("the greatest step", x, 12, 500, 511);
        Due.row(x, 0, 0, 0, 6);
        sat("a step of 6", x, 0, -4, -4);
        Due.row(x, 0, 0, 0, -1);
        sat("no place", x, 0, -4, -4);
        x.sits(11);
        Due.row(x, 0, 0, 11, 4);
        sat("a step of 5 from 11", x, 12, 500, 511);
    }

    private static void whereSatHowMany() {
        EDGE.of(27, "how many of all twos of STEP and HOME make it so");
        ChairOnTheRoad x = Due.told("d09;c06;");
        int[][] told = {{}, {6}, {6, 8}, {6, 8, 10}, {6, 8, 10, 0}, {6, 8, 10, 0, 2}, {6, 8, 10, 0, 3}, {6, 8, 10, -128, 1}, {7}};
        int[] many = {72, 72, 12, 12, 1, 1, 0, 1, 0};
        for (int i = 0; i < told.length; i++) {
            Due.row(x, 0, 0, told[i]);
            EDGE.is("row " + i, x.whereSat(0, 0), many[i]);
        }
    }

    private static void whereSatRefused() {
        EDGE.of(27, "WHERE HE SAT by the ROW in SHELF d: how many (what 0), the least (1; -4), the greatest (2; -4). -1, -11, -12"
            + " (no ROW).");
        ChairOnTheRoad x = new ChairOnTheRoad();
        x.row(0, 2, 0);
        x.keep(1, 1, 0, 0);
        for (int bad : Edge.NO_SHELVES) {
            EDGE.is("whereSat(" + bad + ", 0)", x.whereSat(bad, 0), -1);
        }
        for (int bad : new int[] {-1, 3, Edge.MIN, Edge.MAX}) {
            EDGE.is("whereSat(0, " + bad + ")", x.whereSat(0, bad), -1);
            EDGE.is("of a kind", x.whereSat(1, bad), -1);
            EDGE.is("of nothing", x.whereSat(2, bad), -1);
        }
    }

    private static void whereSatShelf() {
        EDGE.of(27, "-11, -12 (no ROW).");
        ChairOnTheRoad x = new ChairOnTheRoad();
        for (int what = 0; what < 3; what++) {
            EDGE.is("of nothing", x.whereSat(7, what), -11);
        }
        x.keep(7, 1, 0, 0);
        EDGE.is("of a kind", x.whereSat(7, 0), -12);
        for (int sort = 0; sort < 3; sort++) {
            x.row(7, sort, 0);
            EDGE.is("of sort " + sort, x.whereSat(7, 0), 72);
        }
    }

    private static void whatIsSkipped() {
        EDGE.of(28, "WHAT KIND: a ROW tells STOCK of one behind 0, 1, .. DAYS (skipped likewise)");
        for (int sort = 0; sort < 3; sort++) {
            ChairOnTheRoad x = Due.told("v07001;v00001;k150;s000;");
            for (int least = 0; least <= sort; least++) {
                Due.row(x, 0, sort, LEAST[least], 16);
                // A baker of figure 7 has 6 more behind a day.
                EDGE.is("sort " + sort + ", the least of " + least, x.whatIs(0, 0, 0), least == sort ? 2 : 0);
            }
            Due.row(x, 0, sort, 10, LEAST[sort] + 1);
            EDGE.is("sort " + sort + ", 1 above the least", x.whatIs(0, 0, 0), 0);
            Due.row(x, 0, sort, LEAST[sort], LEAST[sort]);
            EDGE.is("sort " + sort + ", all skipped: kinds", x.whatIs(0, 0, 0), 255);
            EDGE.is("sort " + sort + ", all skipped: figures", x.whatIs(0, 0, 1), 1023);
        }
    }

    private static void whatIsKinds() {
        EDGE.of(28, "KINDS (bits) of it by which all of it is so");
        ChairOnTheRoad x = Due.told("v07001;v00001;k150;s000;");
        x.row(0, 0, 0);
        EDGE.is("nothing told", x.whatIs(0, 0, 0), 255);
        Due.row(x, 0, 0, 10);
        EDGE.is("as it is now", x.whatIs(0, 0, 0), 255);
        Due.row(x, 0, 0, 11);
        EDGE.is("as it is not now", x.whatIs(0, 0, 0), 0);
        int[] tomorrow = {11, 16, 10, 12, 15, 12, 13, 11};
        for (int kind = 0; kind < 8; kind++) {
            int bits = 0;
            for (int other = 0; other < 8; other++) {
                bits |= tomorrow[other] == tomorrow[kind] ? 1 << other : 0;
            }
            Due.row(x, 0, 0, 10, tomorrow[kind]);
            EDGE.is("as kind " + kind, x.whatIs(0, 0, 0), bits);
        }
        EDGE.is("its kind stays", x.village(0, 0), 0);
        EDGE.is("what it goes stays", x.village(0, 7), 8);
    }

    private static void whatIsFigures() {
        EDGE.of(28, "FIGURES (bits 0 .. 9)");
        ChairOnTheRoad x = Due.told("v15001;v30001;k150;s000;");
        x.row(0, 0, 0);
        EDGE.is("nothing told", x.whatIs(0, 0, 1), 1023);
        for (int figure = 0; figure <= 9; figure++) {
            Due.row(x, 0, 0, 10, 9 + figure);
            EDGE.is("a baker of figure " + figure, x.whatIs(0, 0, 1), 1 << figure);
        }
        Due.row(x, 0, 0, 10, 19);
        EDGE.is("a baker of figure 10", x.whatIs(0, 0, 1), 0);
        EDGE.is("its figure stays", x.village(0, 1), 5);
        x = Due.told("v20001;v30031;k150;s000;");
        Due.row(x, 0, 0, 10, 10);
        EDGE.is("a doctor that goes 3 or more", x.whatIs(0, 0, 1), 1023 - 7);
    }

    private static void whatIsRefused() {
        EDGE.of(28, "KINDS (what 0), FIGURES (1), bits. -1, -11, -12.");
        ChairOnTheRoad x = Due.told("v00000;");
        x.row(0, 2, 0);
        x.keep(1, 1, 0, 0);
        for (int bad : Edge.NO_SHELVES) {
            EDGE.is("whatIs(" + bad + ", 0, 0)", x.whatIs(bad, 0, 0), -1);
        }
        for (int d = 0; d < 3; d++) {
            for (int bad : new int[] {-1, 1, 7, Edge.MIN, Edge.MAX}) {
                EDGE.is("whatIs(" + d + ", " + bad + ", 0)", x.whatIs(d, bad, 0), -1);
            }
            for (int bad : new int[] {-1, 2, Edge.MIN, Edge.MAX}) {
                EDGE.is("whatIs(" + d + ", 0, " + bad + ")", x.whatIs(d, 0, bad), -1);
            }
        }
    }

    private static void whatIsShelf() {
        EDGE.of(28, "-1, -11, -12.");
        ChairOnTheRoad x = Due.told("v00000;");
        x.keep(1, 1, 0, 0);
        for (int what = 0; what < 2; what++) {
            EDGE.is("of nothing", x.whatIs(2, 0, what), -11);
            EDGE.is("of a kind", x.whatIs(1, 0, what), -12);
        }
    }

    private static void twoForStaying() {
        EDGE.of(29, "5 more for staying");
        // A baker of the figure goes and has so much more behind a day; the other has nobody to fetch from.
        int[] due = {0, 0, 0, 0, 0, 0, 10, 10, 10, 10};
        for (int figure = 0; figure <= 9; figure++) {
            ChairOnTheRoad x = Due.told("v1" + figure + "001;v30001;s000;k150;");
            Edge.askOther(x);
            EDGE.is("figure " + figure, x.two(0, 1, 1), due[figure]);
            EDGE.is("figure " + figure + ", turned", x.two(1, 0, 1), due[figure] / 10);
        }
    }

    private static void twoGoesAsItDoes() {
        EDGE.of(29, "each goes (1) as it does or stays (0: it fetches from itself)");
        ChairOnTheRoad x = Due.told("v19000;v19001;v30002;s000;k299;");
        EDGE.is("both fetch from themselves", x.two(0, 1, 9), 0);
        x.fetches(0, 6);
        x.fetches(1, 3);
        EDGE.is("both fetch from nobody", x.two(0, 1, 9), 0);
        x.fetches(1, 2);
        EDGE.is("one fetches from a third", x.two(0, 1, 9), 1);
        x.fetches(0, 2);
        EDGE.is("both fetch from a third", x.two(0, 1, 1), 11);
        x.stocks(2, 9);
        // The first takes all of the 9, so the other has nothing of it and 5 for staying.
        EDGE.is("there is enough for one", x.two(0, 1, 1), 10);
        EDGE.is("there is enough for one, turned", x.two(1, 0, 1), 1);
    }

    private static void twoFirstPair() {
        EDGE.of(29, "the first pair (10 the one's and the other's) by which neither has more by another choice alone");
        ChairOnTheRoad x = Due.told("v15001;v15000;s000;k050;k150;");
        EDGE.is("all pairs are as good: the first", x.two(0, 1, 1), 0);
        x = Due.told("v19001;v19000;s000;k050;k150;");
        EDGE.is("both go: the last", x.two(0, 1, 1), 11);
        x = Due.told("v19001;v15000;s000;k050;k150;");
        EDGE.is("one goes, for the other it is as good", x.two(0, 1, 1), 10);
        EDGE.is("turned", x.two(1, 0, 1), 1);
        EDGE.is("they fetch as they did", x.village(0, 3), 1);
    }

    private static void twoNone() {
        EDGE.of(29, "by which neither has more by another choice alone; -4.");
        // With the 5 for staying: of 00 7 and 40, of 01 5 and 39, of 10 8 and 34, of 11 2 and 35.
        ChairOnTheRoad x = Due.told("v21001;v79000;s000;k008;k138;");
        EDGE.is("two(0, 1, 3)", x.two(0, 1, 3), -4);
        EDGE.is("two(1, 0, 3)", x.two(1, 0, 3), -4);
    }

    private static void twoDays() {
        EDGE.of(29, "for the next n DAYS (0 .. 30)");
        ChairOnTheRoad x = Due.told("v19001;v30001;s000;k150;");
        EDGE.is("behind 0 days", x.two(0, 1, 0), 0);
        EDGE.is("behind 1 day", x.two(0, 1, 1), 10);
        EDGE.is("behind 30 days", x.two(0, 1, 30), 10);
        // A pedlar of figure 2 fetches 1 a day of 30, and eats 1.
        x = Due.told("v52001;v30001;s000;k130;k036;");
        EDGE.is("6 more behind 6 days", x.two(0, 1, 6), 10);
        EDGE.is("5 more behind 5 days", x.two(0, 1, 5), 0);
        x = Due.told("v52001;v30001;s000;k130;k025;");
        EDGE.is("5 without fetching, 25 with it, behind 20 days", x.two(0, 1, 20), 10);
        EDGE.is("0 without fetching, 25 with it, behind 30 days", x.two(0, 1, 30), 10);
        x = Due.told("v52001;v30001;s000;k105;k030;");
        EDGE.is("5 with fetching, behind 30 days", x.two(0, 1, 30), 0);
        x.stocks(1, 6);
        x.stocks(0, 30);
        EDGE.is("6 with fetching, behind 30 days", x.two(0, 1, 30), 10);
    }

    private static void twoRefused() {
        EDGE.of(29, "TWO; -4. -1 (one twice).");
        ChairOnTheRoad x = Due.told("v00000;v00000;");
        EDGE.is("one twice", x.two(0, 0, 1), -1);
        EDGE.is("the other twice", x.two(1, 1, 1), -1);
        for (int bad : new int[] {-1, 2, 7, Edge.MIN, Edge.MAX}) {
            EDGE.is("two(" + bad + ", 0, 1)", x.two(bad, 0, 1), -1);
            EDGE.is("two(0, " + bad + ", 1)", x.two(0, bad, 1), -1);
            EDGE.is("two(" + bad + ", " + bad + ", 1)", x.two(bad, bad, 1), -1);
        }
        for (int bad : new int[] {-1, 31, Edge.MIN, Edge.MAX}) {
            EDGE.is("two(0, 1, " + bad + ")", x.two(0, 1, bad), -1);
        }
    }

    private static void rain(ChairOnTheRoad x, int n, int t, long above, long below) {
        Edge.askOther(x);
        EDGE.is("rain(0, " + n + ", " + t + ", 0)", x.rain(0, n, t, 0), above);
        Edge.askOther(x);
        EDGE.is("rain(0, " + n + ", " + t + ", 1)", x.rain(0, n, t, 1), below);
    }

    private static void rainDays() {
        EDGE.of(30, "RAIN: on each of n DAYS (0 .. 7), by itself, THE CHAIR stays where it is with odds 1 in t (2 .. 20)");
        // A hearse of figure 0 can fetch if the chair is just at 0.
        ChairOnTheRoad x = Due.told("v30001;v00001;");
        rain(x, 0, 5, 1, 1);
        rain(x, 1, 5, 1, 5);
        rain(x, 7, 5, 1, 78125);
        x.sits(11);
        rain(x, 0, 5, 0, 1);
        rain(x, 1, 5, 4, 5);
        rain(x, 2, 5, 8, 25);
        x.sits(5);
        rain(x, 6, 5, 0, 1);
        rain(x, 7, 5, 16384, 78125);
        EDGE.is("the day stays", x.count(1), 0);
        EDGE.is("the chair stays", x.count(2), 5);
    }

    private static void rainOdds() {
        EDGE.of(30, "with odds 1 in t (2 .. 20)");
        ChairOnTheRoad x = Due.told("v30001;v00001;");
        rain(x, 1, 2, 1, 2);
        rain(x, 1, 20, 1, 20);
        rain(x, 7, 2, 1, 128);
        rain(x, 7, 20, 1, 1280000000L);
        x.sits(11);
        rain(x, 1, 2, 1, 2);
        rain(x, 1, 20, 19, 20);
        x.sits(5);
        rain(x, 7, 20, 893871739L, 1280000000L);
    }

    private static void rainAtHome() {
        EDGE.of(30, "(unless it must be AT HOME)");
        ChairOnTheRoad x = Due.told("v30001;v00001;s100;d11;c05;");
        rain(x, 0, 3, 0, 1);
        rain(x, 1, 3, 1, 1);
        rain(x, 2, 3, 1, 3);
        x.sun(1, 5);
        rain(x, 1, 3, 0, 1);
        x.sun(0, 0);
        rain(x, 2, 3, 1, 1);
        x = Due.told("v30001;v00001;s100;d06;c11;");
        rain(x, 5, 3, 10, 243);
        rain(x, 6, 3, 1, 1);
        rain(x, 7, 3, 1, 3);
    }

    private static void rainLeastTerms() {
        EDGE.of(30, "how likely one CAN behind these: a fraction in least terms.");
        ChairOnTheRoad x = Due.told("v30001;v00001;c11;");
        EDGE.isTrue("2 by 4 is 1 by 2", x.rain(0, 2, 2, 0) == 1 && x.rain(0, 2, 2, 1) == 2);
        rain(x, 3, 3, 2, 9);
        x.sun(0, 6);
        rain(x, 7, 20, 0, 1);
        x.sits(0);
        rain(x, 7, 20, 1, 1);
        x.fetches(0, 0);
        rain(x, 7, 20, 0, 1);
        // Chairs at 0, 1, 2 and 3 are near enough for a village that goes 6.
        x = Due.told("v00001;v00001;c01;");
        rain(x, 3, 2, 7, 8);
        rain(x, 2, 2, 1, 1);
    }

    private static void rainRefused() {
        EDGE.of(30, "RAIN; part 0 above, 1 below the line. Refused as told: -1.");
        ChairOnTheRoad x = Due.told("v00001;v00001;");
        for (int bad : new int[] {-1, 2, 7, Edge.MIN, Edge.MAX}) {
            EDGE.is("rain(" + bad + ", 0, 2, 0)", x.rain(bad, 0, 2, 0), REFUSED);
        }
        for (int bad : new int[] {-1, 8, Edge.MIN, Edge.MAX}) {
            EDGE.is("rain(0, " + bad + ", 2, 0)", x.rain(0, bad, 2, 0), REFUSED);
        }
        for (int bad : new int[] {-1, 0, 1, 21, Edge.MIN, Edge.MAX}) {
            EDGE.is("rain(0, 0, " + bad + ", 1)", x.rain(0, 0, bad, 1), REFUSED);
        }
        for (int bad : new int[] {-1, 2, Edge.MIN, Edge.MAX}) {
            EDGE.is("rain(0, 0, 2, " + bad + ")", x.rain(0, 0, 2, bad), REFUSED);
        }
    }

    private static void refusalsOfLongs() {
        EDGE.of(30, "Of longs they are 1000000000 less them (-1 is told as 1000000001).");
        ChairOnTheRoad x = new ChairOnTheRoad();
        EDGE.is("rain of no such one", x.rain(0, 0, 2, 0), 1000000001L);
        EDGE.is("mean of no such part", x.mean(2), 1000000001L);
        EDGE.is("years of no such number, which is no long", x.years(1, 0, 2), -1);
    }

    private static void mean(String what, ChairOnTheRoad x, long above, long below) {
        EDGE.is(what + ": above", x.mean(0), above);
        EDGE.is(what + ": below", x.mean(1), below);
    }

    private static void meanLeastTerms() {
        EDGE.of(31, "MEAN STOCK: a fraction in least terms");
        ChairOnTheRoad x = Due.told("v00000;v00000;v00000;v00000;v00000;v00000;k000;k100;k200;k300;k400;k500;");
        mean("0 by 6", x, 0, 1);
        x.stocks(0, 1);
        mean("1 by 6", x, 1, 6);
        x.stocks(1, 3);
        mean("4 by 6", x, 2, 3);
        x.stocks(2, 5);
        mean("9 by 6", x, 3, 2);
        x.stocks(3, 99);
        mean("108 by 6", x, 18, 1);
        x = Due.told("v00000;v00000;v00000;v00000;v00000;v00000;v00000;");
        for (int v = 0; v < 7; v++) {
            x.stocks(v, 99);
        }
        mean("693 by 7", x, 99, 1);
        x.stocks(0, 98);
        mean("692 by 7", x, 692, 7);
        mean("10 by 1", Due.told("v00000;"), 10, 1);
    }

    private static void meanOfNoVillages() {
        EDGE.of(31, "(0 by 1 of no VILLAGES)");
        mean("of no villages", new ChairOnTheRoad(), 0, 1);
    }

    private static void meanRefused() {
        EDGE.of(31, "MEAN STOCK; part likewise. Refused as told: -1.");
        for (int bad : new int[] {-1, 2, Edge.MIN, Edge.MAX}) {
            EDGE.is("mean(" + bad + ")", Due.told("v00000;").mean(bad), REFUSED);
            EDGE.is("mean(" + bad + ") of no villages", new ChairOnTheRoad().mean(bad), REFUSED);
        }
    }

    private static void forgedNoSuchVillage() {
        EDGE.of(32, "FORGED: a ROW tells PLACES of VILLAGES 0, 1, ..: the first that is not so (no such VILLAGE, too); -4.");
        ChairOnTheRoad x = Due.told("v00000;v00110;");
        x.row(0, 0, 0);
        EDGE.is("none told", x.forged(0), -4);
        Due.row(x, 0, 0, 0);
        EDGE.is("one of two told", x.forged(0), -4);
        Due.row(x, 0, 0, 0, 11);
        EDGE.is("both told", x.forged(0), -4);
        Due.row(x, 0, 0, 0, 11, 0);
        EDGE.is("no such village", x.forged(0), 2);
        Due.row(x, 0, 0, 0, 10, 0);
        EDGE.is("the second is not so", x.forged(0), 1);
        Due.row(x, 0, 0, 1, 10, 0);
        EDGE.is("none is so", x.forged(0), 0);
        ChairOnTheRoad seven = Due.told("v00010;v00010;v00010;v00010;v00010;v00010;v00010;");
        Due.row(seven, 0, 2, 1, 1, 1, 1, 1, 1, 1);
        EDGE.is("all seven", seven.forged(0), -4);
        Due.row(seven, 0, 2, 1, 1, 1, 1, 1, 1, 1, 1);
        EDGE.is("an eighth", seven.forged(0), 7);
        ChairOnTheRoad empty = new ChairOnTheRoad();
        empty.row(0, 0, 0);
        EDGE.is("none told of none", empty.forged(0), -4);
        empty.row(0, 0, 100);
        EDGE.is("one told of none", empty.forged(0), 0);
    }

    private static void forgedNothingSkipped() {
        EDGE.of(32, "the first that is not so");
        ChairOnTheRoad x = Due.told("v00000;v00110;");
        for (int sort = 0; sort < 3; sort++) {
            Due.row(x, 0, sort, LEAST[sort], 11);
            EDGE.is("the least of sort " + sort + " is no place", x.forged(0), 0);
            Due.row(x, 0, sort, 0, -LEAST[sort] - 1);
            EDGE.is("the greatest of sort " + sort + " is no place", x.forged(0), 1);
        }
    }

    private static void forgedRefused() {
        EDGE.of(32, "FORGED by the ROW in SHELF d; -4. -1, -11, -12.");
        ChairOnTheRoad x = Due.told("v00000;");
        for (int bad : Edge.NO_SHELVES) {
            EDGE.is("forged(" + bad + ")", x.forged(bad), -1);
        }
        EDGE.is("by nothing", x.forged(0), -11);
        x.keep(0, 1, 0, 0);
        EDGE.is("by a kind", x.forged(0), -12);
    }

    private static void judgeSkipped() {
        EDGE.of(33, "(skipped likewise)");
        for (int sort = 0; sort < 3; sort++) {
            ChairOnTheRoad x = Due.told("v00000;v10001;");
            for (int least = 0; least <= sort; least++) {
                Due.row(x, 0, sort, LEAST[least], 17, LEAST[least], 12);
                EDGE.is("sort " + sort + ", the least of " + least, x.judge(0), least == sort ? 3 : 0);
            }
            Due.row(x, 0, sort, LEAST[sort], LEAST[sort]);
            EDGE.is("sort " + sort + ", all skipped", x.judge(0), -4);
            Due.row(x, 0, sort, LEAST[sort], LEAST[sort] + 1);
            EDGE.is("sort " + sort + ", 1 above the least", x.judge(0), 1);
        }
    }

    private static void judgeFirstNotSo() {
        EDGE.of(33, "JUDGED: a ROW tells all STOCK behind 0, 1, .. DAYS: the first that is not so");
        ChairOnTheRoad x = Due.told("v00000;v10001;");
        x.row(0, 0, 0);
        Edge.askOther(x);
        EDGE.is("nothing told", x.judge(0), -4);
        Due.row(x, 0, 0, 20);
        EDGE.is("now", x.judge(0), -4);
        Due.row(x, 0, 0, 19);
        EDGE.is("not so now", x.judge(0), 0);
        Due.row(x, 0, 0, 20, 17, 14, 11, 8, 5, 4, 3, 2, 1, 0, 0);
        EDGE.is("all so", x.judge(0), -4);
        Due.row(x, 0, 0, 20, 17, 14, 11, 8, 5, 4, 3, 2, 1, 0, 1, 1);
        EDGE.is("the last but one is not so", x.judge(0), 11);
        x = Due.told("v30000;v00001;v00002;v00003;v00004;v00005;v00006;");
        x.row(0, 0, 100);
        x.put(0, 0, 70);
        x.put(0, 1, 58);
        x.put(0, 2, 46);
        x.put(0, 3, 34);
        x.put(0, 4, 22);
        for (int i = 5; i < 100; i++) {
            x.put(0, i, 10);
        }
        EDGE.is("a hundred", x.judge(0), -4);
        x.put(0, 99, 9);
        EDGE.is("the hundredth is not so", x.judge(0), 99);
        ChairOnTheRoad empty = new ChairOnTheRoad();
        Due.row(empty, 0, 0, 0, 0, 1);
        EDGE.is("no villages have no stock", empty.judge(0), 2);
    }

    private static void judgeRefused() {
        EDGE.of(33, "JUDGED by the ROW in SHELF d; -4. -1, -11, -12.");
        ChairOnTheRoad x = Due.told("v00000;");
        for (int bad : Edge.NO_SHELVES) {
            EDGE.is("judge(" + bad + ")", x.judge(bad), -1);
        }
        EDGE.is("by nothing", x.judge(0), -11);
        x.keep(0, 1, 0, 0);
        EDGE.is("by a kind", x.judge(0), -12);
    }

    private static final String YEARLY = "v22001;v21000;v00004;v19002;v32003;d05;";

    /** The z behind a DRAW, without any int's wrap-around. */
    private static int next(int z) {
        return (int) Math.floorMod(z * 1103515245L + 12345L, 1L << 32);
    }

    private static int below12(int z) {
        return (int) (Math.floorMod((long) z, 1L << 31) / 65536 % 12);
    }

    private static long[] yearsOf(String text, int n, int seed) {
        long[] sums = new long[2];
        int z = seed;
        for (int year = 0; year < n; year++) {
            ChairOnTheRoad x = Due.told(text);
            for (int v = 0; v < x.count(0); v++) {
                z = next(z);
                x.moves(v, below12(z));
            }
            sums[0] += x.then(12, 3);
            sums[1] += x.then(12, 1) - x.count(3);
        }
        return sums;
    }

    private static void yearsEachFromNow() {
        EDGE.of(34, "n (1 .. 20), each from now");
        ChairOnTheRoad x = Due.told(YEARLY);
        String before = Due.all(x);
        for (int n = 1; n <= 20; n++) {
            EDGE.is("years(" + n + ", 77, 0)", x.years(n, 77, 0), yearsOf(YEARLY, n, 77)[0]);
        }
        EDGE.isTrue("all is as it was", before.equals(Due.all(x)));
        EDGE.is("of no villages", new ChairOnTheRoad().years(20, 5, 0), 0);
        EDGE.is("of what does not eat", Due.told("v30000;").years(20, 5, 0), 200);
    }

    private static void yearsOfTwelveDays() {
        EDGE.of(34, "then 12 DAYS: all STOCK together");
        EDGE.is("12 by ones", Due.told("v10000;k012;").years(1, 5, 0), 0);
        EDGE.is("13 by ones", Due.told("v10000;k013;").years(1, 5, 0), 1);
        EDGE.is("13 by ones, twenty years", Due.told("v10000;k013;").years(20, 5, 0), 20);
        EDGE.is("two by ones", Due.told("v10000;v10001;k013;k115;").years(2, 5, 0), 8);
        ChairOnTheRoad last = Due.told("v10000;" + "d60;".repeat(16) + "d39;");
        last.stocks(0, 13);
        EDGE.is("from day 999 on", last.years(20, 5, 0), 20);
    }

    private static void yearsNods() {
        EDGE.of(34, "NODS more, together");
        ChairOnTheRoad x = Due.told(YEARLY);
        EDGE.isTrue("there are nods ahead", x.count(3) > 0);
        for (int n : new int[] {1, 2, 3, 19, 20}) {
            EDGE.is("years(" + n + ", 5, 1)", x.years(n, 5, 1), yearsOf(YEARLY, n, 5)[1]);
        }
        EDGE.isTrue("in twenty years there are more than in one", x.years(20, 5, 1) > x.years(1, 5, 1));
        EDGE.is("of no villages", new ChairOnTheRoad().years(20, 5, 1), 0);
        // An army of figure 9 goes 23, which is the longest way there is.
        EDGE.is("two that always can", Due.told("v69001;v69000;").years(20, 5, 1), 480);
    }

    private static void yearsDraw() {
        EDGE.of(34, "A DRAW below n: z becomes z times 1103515245 plus 12345 (an int); (z without its sign's bit over 65536, cut)"
            + " modulo n.");
        for (int seed : new int[] {0, 1, -1, 2, 65535, 65536, -65536, Edge.MIN, Edge.MIN + 1, Edge.MAX, Edge.MAX - 1}) {
            ChairOnTheRoad x = Due.told(YEARLY);
            long[] due = yearsOf(YEARLY, 3, seed);
            EDGE.is("years(3, " + seed + ", 0)", x.years(3, seed, 0), due[0]);
            EDGE.is("years(3, " + seed + ", 1)", x.years(3, seed, 1), due[1]);
        }
        // Seed 0 draws 0, 0, 4 (by a z below 0): the doctor there fetches 2 a day of the 50 if it goes 4.
        EDGE.is("seed 0, a doctor that goes 3", Due.told("v30000;v30001;v23000;k050;").years(1, 0, 0), 60);
        EDGE.is("seed 0, a doctor that goes 4", Due.told("v30000;v30001;v24000;k050;").years(1, 0, 0), 46);
        // Seed -1 draws 5 (by a z below 0), 5, 10: a doctor that goes nowhere fetches at 5.
        EDGE.is("seed -1, a doctor that goes 4", Due.told("v30000;v20000;v24000;k050;").years(1, -1, 0), 36);
        EDGE.is("seed -1, a doctor that goes 5", Due.told("v30000;v20000;v25000;k050;").years(1, -1, 0), 22);
    }

    private static void yearsDrawBelow12() {
        EDGE.of(34, "PLACE of each VILLAGE, by numbers, a DRAW below 12");
        int drawn = 0;
        for (int seed = 0; seed < 200; seed++) {
            int first = next(seed);
            int far = Math.abs(below12(first) - below12(next(first)));
            drawn |= 1 << below12(first);
            // The doctor of figure 1 fetches and eats 24 of the 50 if it is drawn 1 or less from the hearse, else its own 10.
            ChairOnTheRoad x = Due.told("v30000;v21000;k050;");
            EDGE.is("years(1, " + seed + ", 0)", x.years(1, seed, 0), far <= 1 || far == 11 ? 36 : 50);
        }
        EDGE.is("all places were drawn", drawn, 4095);
    }

    private static void yearsRefused() {
        EDGE.of(34, "YEARS: STOCK (what 0), NODS (1). -1.");
        ChairOnTheRoad x = Due.told("v00000;");
        for (int bad : new int[] {-1, 0, 21, Edge.MIN, Edge.MAX}) {
            EDGE.is("years(" + bad + ", 0, 0)", x.years(bad, 0, 0), -1);
        }
        for (int bad : new int[] {-1, 2, Edge.MIN, Edge.MAX}) {
            EDGE.is("years(1, 0, " + bad + ")", x.years(1, 0, bad), -1);
        }
    }
}
