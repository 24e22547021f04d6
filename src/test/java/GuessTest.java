/** Promises 27 to 34: where he sat, what kind one is, two, rain, shares, told maps, years by seeds. */
public final class GuessTest {
    private static final Due DUE = new Due();
    private static final int MIN = Integer.MIN_VALUE;
    private static final int MAX = Integer.MAX_VALUE;

    public static void main(String[] args) {
        whereSat();
        whereSatHome();
        whatIs();
        whatIsByOthers();
        two();
        twoWithoutPair();
        rain();
        rainAndHome();
        rainOfArmies();
        mean();
        forged();
        judge();
        years();
        rowsRefused();
        numbersRefused();
        DUE.end();
    }

    private static void sat(ChairOnTheRoad x, long many, long least, long greatest) {
        DUE.is("whereSat(0, 0)", x.whereSat(0, 0), many);
        DUE.is("whereSat(0, 1)", x.whereSat(0, 1), least);
        DUE.is("whereSat(0, 2)", x.whereSat(0, 2), greatest);
    }

    private static void whereSat() {
        ChairOnTheRoad x = Due.told("c03;");
        x.row(0, 0, 0);
        sat(x, 72, 0, 511);
        Due.row(x, 0, 0, 3);
        sat(x, 72, 0, 511);
        Due.row(x, 0, 0, 2);
        sat(x, 0, -4, -4);
        Due.row(x, 0, 0, -128, 7);
        sat(x, 12, 400, 411);
        Due.row(x, 0, 0, 3, 7, -128, 4);
        sat(x, 0, -4, -4);
        Due.row(x, 0, 0, 3, 7, -128, 3);
        sat(x, 12, 400, 411);
        Due.row(x, 0, 1, -32768, -32768, 11);
        sat(x, 12, 400, 411);
        Due.row(x, 0, 1, 3, -128);
        sat(x, 0, -4, -4);
        Due.row(x, 0, 2, 3, MIN, 1);
        sat(x, 12, 500, 511);
        Due.row(x, 0, 2, 3, -32768);
        sat(x, 0, -4, -4);
        Due.row(x, 0, 2, 3, 15);
        sat(x, 0, -4, -4);
        DUE.is("the row stays", x.element(0, 1), 15);
        DUE.is("the sun stays", x.sun(0, 0), 106);
    }

    private static void whereSatHome() {
        ChairOnTheRoad x = Due.told("d10;c03;");
        Due.row(x, 0, 0, 3, -128, 8);
        // Day 12 is the second from now: home is 8, whatever the step.
        sat(x, 6, 8, 508);
        Due.row(x, 0, 0, 3, 5, 8, 10);
        sat(x, 1, 208, 208);
        Due.row(x, 0, 0, 3, 5, 8, 11);
        sat(x, 0, -4, -4);
        x.row(0, 0, 100);
        for (int i = 0; i < 100; i++) {
            x.put(0, i, -128);
        }
        sat(x, 72, 0, 511);
        // 99 days on is day 109: one step from home on day 108.
        x.put(0, 99, 0);
        sat(x, 6, 0, 507);
    }

    private static void whatIs() {
        ChairOnTheRoad x = Due.told("v07001;v00001;k150;s000;");
        x.row(0, 0, 0);
        DUE.is("nothing told: kinds", x.whatIs(0, 0, 0), 255);
        DUE.is("nothing told: figures", x.whatIs(0, 0, 1), 1023);
        // By figure 7 the kinds win 1, 6, 0, 2, 5, 2, 3, 1 a day.
        Due.row(x, 0, 0, 10, 11);
        DUE.is("1 more: village, hermit", x.whatIs(0, 0, 0), 1 + 128);
        DUE.is("a village of any figure", x.whatIs(0, 0, 1), 1023);
        Due.row(x, 0, 0, 10, 12);
        DUE.is("2 more: hearse, pedlar", x.whatIs(0, 0, 0), 8 + 32);
        DUE.is("no village", x.whatIs(0, 0, 1), 0);
        Due.row(x, 0, 0, 10, -128, 20);
        DUE.is("5 more each day: bishop", x.whatIs(0, 0, 0), 16);
        Due.row(x, 0, 0, 9);
        DUE.is("not so now", x.whatIs(0, 0, 0), 0);
        Due.row(x, 0, 1, 10, -128);
        DUE.is("the least of bytes is none of shorts", x.whatIs(0, 0, 0), 0);
        Due.row(x, 0, 1, -32768, 13);
        DUE.is("3 more: army", x.whatIs(0, 0, 0), 64);
        Due.row(x, 0, 2, MIN, 16);
        DUE.is("6 more: baker", x.whatIs(0, 0, 0), 2);
        DUE.is("it stays", x.village(0, 0), 0);
        x = Due.told("v57001;v00001;k150;s000;");
        Due.row(x, 0, 0, 10, 12);
        DUE.is("a pedlar of 6 or 7", x.whatIs(0, 0, 1), 64 + 128);
        x = Due.told("v00001;v20051;k150;s000;c02;");
        Due.row(x, 0, 0, 10, 9);
        DUE.is("figure 0: bishop and pedlar win nothing, baker none", x.whatIs(0, 0, 0) & 2, 2);
        Due.row(x, 0, 0, 10, 11);
        DUE.is("a village that goes 6 or more", x.whatIs(0, 0, 1), 1023);
        x.sits(9);
        DUE.is("a village that goes 3 and 4", x.whatIs(0, 0, 1), 1023 - 7);
    }

    private static void whatIsByOthers() {
        // What 1 has is told too by what 0 brings home from it.
        ChairOnTheRoad x = Due.told("v17001;v03001;k150;s000;");
        Due.row(x, 0, 0, 50, 50 - 7 - 2);
        DUE.is("village or doctor", x.whatIs(0, 1, 0), 1 + 4 + 16);
        DUE.is("any figure", x.whatIs(0, 1, 1), 1023);
    }

    private static void two() {
        ChairOnTheRoad x = Due.told("v19001;v19000;s000;");
        DUE.is("behind 0 days staying is more", x.two(0, 1, 0), 0);
        // Both go: each takes 9 and is taken 9. One goes: it takes 9, the other loses 9.
        DUE.is("behind a day", x.two(0, 1, 1), 11);
        DUE.is("behind a day, turned", x.two(1, 0, 1), 11);
        x = Due.told("v19001;v00001;s000;");
        DUE.is("one goes, the other has nobody", x.two(0, 1, 1), 10);
        DUE.is("turned", x.two(1, 0, 1), 1);
        x = Due.told("v14001;v00001;s000;");
        DUE.is("4 is less than 5 more", x.two(0, 1, 1), 0);
        x = Due.told("v15001;v00001;s000;");
        DUE.is("5 is as much as 5 more", x.two(0, 1, 1), 0);
        DUE.is("5 is as much as 5 more, turned", x.two(1, 0, 1), 0);
        x = Due.told("v16001;v00001;s000;");
        DUE.is("6 is more", x.two(0, 1, 1), 10);
        DUE.is("behind 30 days", x.two(0, 1, 30), 0);
        DUE.is("fetching stays", x.village(0, 3), 1);
    }

    private static void twoWithoutPair() {
        // What they have, with the 5 for staying: of 00 7 and 40, of 01 5 and 39, of 10 8 and 34, of 11 2 and 35.
        ChairOnTheRoad x = Due.told("v21001;v79000;s000;k008;k138;");
        DUE.is("one always wants it otherwise", x.two(0, 1, 3), -4);
        DUE.is("turned", x.two(1, 0, 3), -4);
    }

    private static void rain(ChairOnTheRoad x, int n, int t, long above, long below) {
        DUE.is("rain(0, " + n + ", " + t + ", 0)", x.rain(0, n, t, 0), above);
        DUE.is("rain(0, " + n + ", " + t + ", 1)", x.rain(0, n, t, 1), below);
    }

    private static void rain() {
        // A hearse of figure 0 goes 0: the chair must be just where both are.
        ChairOnTheRoad x = Due.told("v30001;v00001;c00;");
        rain(x, 0, 2, 1, 1);
        rain(x, 1, 2, 1, 2);
        rain(x, 1, 20, 1, 20);
        rain(x, 3, 20, 1, 8000);
        rain(x, 7, 20, 1, 1280000000L);
        x.sits(11);
        rain(x, 0, 2, 0, 1);
        rain(x, 1, 3, 2, 3);
        // Just one step of two: 2 times 1/4 times 3/4.
        rain(x, 2, 4, 3, 8);
        // Just one of seven: 7 times 19 by 20 to the 7th.
        rain(x, 7, 20, 133, 1280000000L);
        x.sun(0, 6);
        rain(x, 7, 20, 0, 1);
        x.sits(0);
        rain(x, 7, 20, 1, 1);
        x.sun(5, 6);
        x.sits(2);
        // Two steps of five on 3 days: 3 times 2 by 3, 2 by 3, 1 by 3.
        rain(x, 3, 3, 4, 9);
    }

    private static void rainAndHome() {
        ChairOnTheRoad x = Due.told("v30001;v00001;s100;d11;c05;");
        rain(x, 1, 2, 1, 1);
        rain(x, 2, 3, 1, 3);
        rain(x, 3, 3, 1, 9);
        x = Due.told("v30001;v00001;s100;d10;c11;");
        rain(x, 1, 3, 2, 3);
        rain(x, 2, 3, 1, 1);
        rain(x, 3, 3, 1, 3);
        DUE.is("the day stays", x.count(1), 10);
        DUE.is("the chair stays", x.count(2), 11);
    }

    private static void rainOfArmies() {
        // An army of figure 0 goes 17. 4 off and back is 14, on odd days 15; 5 off and back 18.
        ChairOnTheRoad x = Due.told("v60001;v00001;c04;");
        rain(x, 1, 3, 1, 3);
        // 5 and 4 is 16, on day 1 it is 17.
        x = Due.told("v60001;v00011;c05;s006;");
        rain(x, 1, 2, 1, 1);
        x = Due.told("v60001;v00001;c05;s006;");
        rain(x, 1, 2, 0, 1);
        // Of figure 3 it goes 19: just what it is on odd days.
        x = Due.told("v63001;v00001;c05;s006;");
        rain(x, 1, 2, 1, 1);
        // A bishop of figure 3 goes 18, on odd days too.
        x = Due.told("v43001;v00001;c05;s006;");
        rain(x, 1, 2, 1, 1);
    }

    private static void mean() {
        ChairOnTheRoad x = new ChairOnTheRoad();
        DUE.is("mean(0) of none", x.mean(0), 0);
        DUE.is("mean(1) of none", x.mean(1), 1);
        x = Due.told("v00000;k018;");
        DUE.is("mean(0) of one", x.mean(0), 18);
        DUE.is("mean(1) of one", x.mean(1), 1);
        x = Due.told("v00000;v00000;v00000;v00000;k011;");
        DUE.is("mean(0) of 41 by 4", x.mean(0), 41);
        DUE.is("mean(1) of 41 by 4", x.mean(1), 4);
        x.stocks(0, 12);
        DUE.is("mean(0) of 42 by 4", x.mean(0), 21);
        DUE.is("mean(1) of 42 by 4", x.mean(1), 2);
        x.days(60);
        DUE.is("mean(0) of 0 by 4", x.mean(0), 0);
        DUE.is("mean(1) of 0 by 4", x.mean(1), 1);
    }

    private static void forged() {
        ChairOnTheRoad x = Due.told("v00030;v00110;");
        x.row(0, 0, 0);
        DUE.is("nothing told", x.forged(0), -4);
        Due.row(x, 0, 0, 3);
        DUE.is("one told", x.forged(0), -4);
        Due.row(x, 0, 1, 3, 11);
        DUE.is("both told", x.forged(0), -4);
        Due.row(x, 0, 2, 3, 10);
        DUE.is("the second is not so", x.forged(0), 1);
        Due.row(x, 0, 2, 4, 10);
        DUE.is("the first is not so", x.forged(0), 0);
        Due.row(x, 0, 2, 3, 11, 0);
        DUE.is("no such village", x.forged(0), 2);
        Due.row(x, 0, 0, -128, 11);
        DUE.is("the least is not skipped", x.forged(0), 0);
        x.row(0, 0, 100);
        x.put(0, 0, 3);
        x.put(0, 1, 11);
        DUE.is("a hundred told", x.forged(0), 2);
    }

    private static void judge() {
        ChairOnTheRoad x = Due.told("v00000;v10001;");
        x.row(0, 0, 0);
        DUE.is("nothing told", x.judge(0), -4);
        Due.row(x, 0, 0, 20, 17, 14);
        DUE.is("all so", x.judge(0), -4);
        Due.row(x, 0, 0, 20, -128, 14);
        DUE.is("one skipped", x.judge(0), -4);
        Due.row(x, 0, 0, 20, -128, 15);
        DUE.is("the third is not so", x.judge(0), 2);
        Due.row(x, 0, 1, 20, -128, 14);
        DUE.is("the least of bytes is none of shorts", x.judge(0), 1);
        Due.row(x, 0, 1, -32768, 17, -32768, 11);
        DUE.is("shorts skipped", x.judge(0), -4);
        Due.row(x, 0, 2, MIN, MIN, MIN, 12);
        DUE.is("ints skipped", x.judge(0), 3);
        Due.row(x, 0, 2, 19);
        DUE.is("not so now", x.judge(0), 0);
        x.row(0, 0, 100);
        int[] all = {20, 17, 14, 11, 8, 5, 4, 3, 2, 1};
        for (int i = 0; i < all.length; i++) {
            x.put(0, i, all[i]);
        }
        DUE.is("a hundred days", x.judge(0), -4);
        x.put(0, 99, 1);
        DUE.is("the hundredth is not so", x.judge(0), 99);
        DUE.is("the day stays", x.count(1), 0);
        ChairOnTheRoad empty = new ChairOnTheRoad();
        Due.row(empty, 0, 0, 0, 0, 1);
        DUE.is("no villages, no stock", empty.judge(0), 2);
    }

    private static void years() {
        ChairOnTheRoad x = Due.told("v21001;v00001;s000;k099;k199;");
        // A doctor of 1 can if it is drawn next to the other: 24 more of its stock goes from the other then.
        for (int seed : new int[] {0, 1, -1, 77, MIN, MAX}) {
            int z = seed;
            int stock = 0;
            for (int n = 1; n <= 20; n++) {
                int[] place = new int[2];
                for (int v = 0; v < 2; v++) {
                    z = z * 1103515245 + 12345;
                    place[v] = (int) ((z & 0x7fffffffL) >> 16) % 12;
                }
                ChairOnTheRoad y = Due.told("v21001;v00001;s000;k099;k199;");
                y.moves(0, place[0]);
                y.moves(1, place[1]);
                stock += y.days(12);
                DUE.is("years(" + n + ", " + seed + ", 0)", x.years(n, seed, 0), stock);
                DUE.is("years(" + n + ", " + seed + ", 1)", x.years(n, seed, 1), 0);
            }
        }
        x = Due.told("v00001;v00000;s000;d05;");
        int before = x.count(3);
        DUE.is("nods ahead", before, 10);
        // From seed 0: 12345 draws 0; then 12345 times 1103515245 and 12345 more.
        int second = ((12345 * 1103515245 + 12345 & MAX) >> 16) % 12;
        int far = second > 6 ? 12 - second : second;
        DUE.is("nods of a year", x.years(1, 0, 1), far <= 6 ? 24 : 0);
        DUE.is("the day stays", x.count(1), 5);
        DUE.is("the place stays", x.village(1, 2), 0);
        DUE.is("no villages", new ChairOnTheRoad().years(20, 5, 1), 0);
    }

    private static void rowsRefused() {
        ChairOnTheRoad x = Due.told("v00000;");
        for (int d : new int[] {-1, 8, MIN, MAX}) {
            DUE.is("whereSat(" + d + ", 0)", x.whereSat(d, 0), -1);
            DUE.is("whatIs(" + d + ", 0, 0)", x.whatIs(d, 0, 0), -1);
            DUE.is("forged(" + d + ")", x.forged(d), -1);
            DUE.is("judge(" + d + ")", x.judge(d), -1);
        }
        for (int held = 0; held < 3; held++) {
            if (held == 1) {
                x.keep(1, 1, 3, 3);
            } else if (held == 2) {
                x.row(1, 2, 0);
            }
            int due = held == 0 ? -11 : -12;
            if (held < 2) {
                DUE.is("whereSat by no row", x.whereSat(1, 0), due);
                DUE.is("whatIs by no row", x.whatIs(1, 0, 0), due);
                DUE.is("forged by no row", x.forged(1), due);
                DUE.is("judge by no row", x.judge(1), due);
            }
            for (int what : new int[] {-1, 3, MIN, MAX}) {
                DUE.is("whereSat(1, " + what + ")", x.whereSat(1, what), -1);
            }
            for (int what : new int[] {-1, 2, MIN, MAX}) {
                DUE.is("whatIs(1, 0, " + what + ")", x.whatIs(1, 0, what), -1);
            }
            for (int v : new int[] {-1, 1, 7, MIN, MAX}) {
                DUE.is("whatIs(1, " + v + ", 0)", x.whatIs(1, v, 0), -1);
            }
        }
    }

    private static void numbersRefused() {
        ChairOnTheRoad x = Due.told("v00000;v00000;");
        for (int bad : new int[] {-1, 2, 7, MIN, MAX}) {
            DUE.is("two(" + bad + ", 0, 0)", x.two(bad, 0, 0), -1);
            DUE.is("two(0, " + bad + ", 0)", x.two(0, bad, 0), -1);
            DUE.is("rain(" + bad + ", 0, 2, 0)", x.rain(bad, 0, 2, 0), 1000000001L);
        }
        DUE.is("one twice", x.two(1, 1, 0), -1);
        for (int bad : new int[] {-1, 31, MIN, MAX}) {
            DUE.is("two(0, 1, " + bad + ")", x.two(0, 1, bad), -1);
        }
        for (int bad : new int[] {-1, 8, MIN, MAX}) {
            DUE.is("rain(0, " + bad + ", 2, 0)", x.rain(0, bad, 2, 0), 1000000001L);
        }
        for (int bad : new int[] {-1, 0, 1, 21, MIN, MAX}) {
            DUE.is("rain(0, 0, " + bad + ", 0)", x.rain(0, 0, bad, 0), 1000000001L);
        }
        for (int bad : new int[] {-1, 2, MIN, MAX}) {
            DUE.is("rain(0, 0, 2, " + bad + ")", x.rain(0, 0, 2, bad), 1000000001L);
            DUE.is("mean(" + bad + ")", x.mean(bad), 1000000001L);
            DUE.is("years(1, 0, " + bad + ")", x.years(1, 0, bad), -1);
        }
        for (int bad : new int[] {-1, 0, 21, MIN, MAX}) {
            DUE.is("years(" + bad + ", 0, 0)", x.years(bad, 0, 0), -1);
        }
    }
}
