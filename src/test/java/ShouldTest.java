/** Promises 17 to 26: where he should sit, who should fetch from whom. */
public final class ShouldTest {
    private static final Due DUE = new Due();
    private static final int MIN = Integer.MIN_VALUE;
    private static final int MAX = Integer.MAX_VALUE;

    public static void main(String[] args) {
        sit();
        sitFor();
        move();
        fetch();
        stepBest();
        match();
        feed();
        shade();
        jam();
        frontier();
        chains();
        refused();
        DUE.end();
    }

    private static void sit() {
        ChairOnTheRoad x = Due.told("v00031;v00050;c11;");
        DUE.is("sit(0): 3 to 5 by 3, 4 or 5", x.sit(0), 3);
        DUE.is("sit(1)", x.sit(1), 4);
        DUE.is("the chair stays", x.count(2), 11);
        x.fetches(1, 1);
        DUE.is("of those who fetch", x.sit(1), 2);
        x.fetches(1, 4);
        DUE.is("nobody is fetched from", x.sit(1), 2);
        x = Due.told("v00001;v10061;c03;");
        DUE.is("all round is as near", x.sit(0), 0);
        DUE.is("half round", x.sit(1), 6);
        // Those who cannot fetch count too: a hearse's way is straight and from the chair on.
        x = Due.told("v30001;v00051;c03;");
        DUE.is("for a hearse the other's place", x.sit(0), 5);
        DUE.is("though it can't", x.sit(1), 5);
        x = Due.told("v60001;v00041;d01;");
        DUE.is("an army on an odd day", x.sit(1), 7);
    }

    private static void sitFor() {
        // Without steps, home where he is: a hearse (figure 8) goes 4, from 1 to 3, so the chair within 2 of 3.
        ChairOnTheRoad x = Due.told("v38011;v00031;s000;k199;");
        DUE.is("sitFor(0)", x.sitFor(0), 0);
        DUE.is("taken or not, all is eaten alike", x.sitFor(1), 0);
        x.stocks(1, 1);
        // 1 eats 2 of its 1; if the hearse has fetched it ahead, none of it is eaten.
        DUE.is("sitFor(1)", x.sitFor(1), 1);
        x.sun(1, 0);
        DUE.is("a step on", x.sitFor(1), 0);
        x.sun(5, 0);
        DUE.is("five on: 1 .. 5 from 8 on", x.sitFor(1), 0);
        x.sun(3, 0);
        DUE.is("three on: from 10 on, and 0", x.sitFor(1), 0);
        x.sun(4, 0);
        x.moves(0, 8);
        x.moves(1, 8);
        x.sits(7);
        DUE.is("four on: 4 .. 12 less 4", x.sitFor(1), 0);
        x.moves(0, 9);
        x.moves(1, 10);
        DUE.is("four on: 7 .. 13 less 4", x.sitFor(1), 3);
        DUE.is("the chair stays", x.count(2), 7);
    }

    private static void move() {
        // A doctor of figure 2 goes 2, straight.
        ChairOnTheRoad x = Due.told("v22001;v00061;k199;");
        DUE.is("move(0, 0)", x.move(0, 0), 0);
        DUE.is("move(0, 1): 2 from 6", x.move(0, 1), 4);
        DUE.is("move(1, 5): out of the doctor's reach", x.move(1, 5), 3);
        x.moves(1, 1);
        DUE.is("move(0, 1): 2 from 1", x.move(0, 1), 0);
        x.moves(1, 0);
        DUE.is("it stays", x.village(0, 2), 0);
        x.stocks(1, 0);
        DUE.is("as good everywhere", x.move(0, 1), 0);
        x = Due.told("v20001;v00111;k199;");
        DUE.is("just there", x.move(0, 20), 11);
        DUE.is("all is eaten wherever it is", x.move(0, 60), 0);
    }

    private static void fetch() {
        ChairOnTheRoad x = Due.told("v19000;v00001;v00002;v30003;s000;k150;k260;k301;");
        DUE.is("fetch(0, 0)", x.fetch(0, 0), -4);
        DUE.is("of several the least", x.fetch(0, 1), 1);
        // Each eats 2 of its own: 9, 9, 9, 9, 6 can be had of 50, and 9, 9, 9, 9, 9, 5 of 60.
        DUE.is("where more can be had", x.fetch(0, 9), 2);
        x.fetches(0, 2);
        DUE.is("as good as it is", x.fetch(0, 1), -4);
        DUE.is("the best as it is", x.fetch(0, 9), -4);
        x.fetches(0, 3);
        DUE.is("better than one", x.fetch(0, 1), 1);
        DUE.is("it fetches as told", x.village(0, 3), 3);
        DUE.is("a hearse of figure 0", x.fetch(3, 1), 0);
        DUE.is("fetch alone", Due.told("v00000;").fetch(0, 9), -4);
    }

    private static void stepBest() {
        // As for sitFor: what the hearse has fetched of the last is not eaten. It goes 4, from 1 to 3.
        ChairOnTheRoad x = Due.told("v38011;v00031;k101;c00;");
        DUE.is("stepBest(0)", x.stepBest(0), 0);
        DUE.is("stepBest(1)", x.stepBest(1), 1);
        x.sits(10);
        DUE.is("from 10", x.stepBest(1), 3);
        x.sits(8);
        DUE.is("from 8", x.stepBest(1), 5);
        x.sits(7);
        DUE.is("from 7: none does", x.stepBest(1), 0);
        DUE.is("the step stays", x.count(5), 1);
    }

    private static void match() {
        ChairOnTheRoad x = new ChairOnTheRoad();
        DUE.is("match of none", x.match(-1), -4);
        DUE.is("-1 first", x.match(0), -1);
        x = Due.told("v00000;");
        DUE.is("match of one", x.match(-1), -4);
        DUE.is("match of one, whom", x.match(0), -4);
        DUE.is("-1 ahead of -4", x.match(1), -1);
        DUE.is("-1 ahead of -4", x.match(-2), -1);
        // Doctors at 0, 1, 6, 7: 0 with 1 and 6 with 7.
        x = Due.told("v20000;v20060;v20010;v20070;");
        DUE.is("match(-1)", x.match(-1), 4);
        DUE.is("match(0)", x.match(0), 2);
        DUE.is("match(1)", x.match(1), 3);
        DUE.is("match(2)", x.match(2), 0);
        DUE.is("match(3)", x.match(3), 1);
        // Three at one place: two rounds as good, the first is 1, 2, 0.
        x = Due.told("v20000;v20000;v20000;");
        DUE.is("rounds of three", x.match(-1), 0);
        DUE.is("0 from 1", x.match(0), 1);
        DUE.is("1 from 2, not from 0", x.match(1), 2);
        DUE.is("2 from 0", x.match(2), 0);
        // Four at one place: 1, 0, 3, 2 is the first.
        x = Due.told("v20000;v20000;v20000;v20000;");
        DUE.is("1 from 0", x.match(1), 0);
        DUE.is("2 from 3", x.match(2), 3);
        DUE.is("3 from 2", x.match(3), 2);
        // The nearest for 0 is not the best for all: 0 from 1 is 0, but then 2 has to go far.
        x = Due.told("v20000;v20000;v20040;");
        DUE.is("least of all together", x.match(-1), 8);
        x = Due.told("v60000;v60020;c02;d01;");
        DUE.is("armies on an odd day, chair at 3", x.match(-1), 2 * (4 - 1) + 1 + 2 * (4 - 1) + 1);
        // By the chair all ways round are as long, so the first is 1, 0, 3, 2, 5, 6, 4.
        x = Due.told("v00001;v00032;v00060;v00090;v00000;v00000;v00000;");
        DUE.is("seven villages by the chair", x.match(-1), 24);
        DUE.is("the last of seven", x.match(6), 4);
        DUE.is("the fifth of seven", x.match(4), 5);
        DUE.is("the first of seven", x.match(0), 1);
    }

    private static void feed() {
        ChairOnTheRoad x = Due.told("v00000;v00001;k005;k105;");
        DUE.is("nobody is hungry", x.feed(1), -4);
        DUE.is("both are, the least one", x.feed(3), 0);
        x.stocks(0, 99);
        DUE.is("one is", x.feed(3), 1);
        DUE.is("20 more is not enough", x.feed(13), -4);
        DUE.is("20 more just is", x.feed(12), 1);
        x.stocks(1, 0);
        DUE.is("behind 0 days", x.feed(0), 1);
        DUE.is("stock stays", x.village(1, 4), 0);
        DUE.is("feed of none", new ChairOnTheRoad().feed(5), -4);
        x = Due.told("v10000;k005;");
        DUE.is("5 and 20 by ones lasts 24 days", x.feed(24), 0);
        DUE.is("5 and 20 by ones is gone behind 25", x.feed(25), -4);
        x = Due.told("v00000;v00001;v00002;v00003;v00004;v00005;v00006;k600;k507;");
        DUE.is("the last of seven", x.feed(0), 6);
        DUE.is("the first of the hungry", x.feed(4), 5);
        // 99 at most: 95 and 20 more is 99, gone behind 50 days.
        x = Due.told("v00000;k095;");
        DUE.is("99 lasts 49 days", x.feed(49), 0);
        DUE.is("99 is gone behind 50", x.feed(50), -4);
        // Fed to the one who is fetched from, it feeds both: 0 fetches 9 a day from 1.
        x = Due.told("v19001;v00001;v00002;s000;k000;k100;k200;");
        DUE.is("who feeds two", x.feed(1), 1);
    }

    private static void shade() {
        ChairOnTheRoad x = Due.told("v00000;v00010;v00110;v00060;v00040;c00;");
        int[] due = {1, 7, 7, 7, 23, 23, 31};
        for (int r = 0; r <= 6; r++) {
            DUE.is("shade(" + r + ")", x.shade(r), due[r]);
        }
        x.sits(6);
        DUE.is("shade(2) of 6", x.shade(2), 24);
        DUE.is("shade of none", new ChairOnTheRoad().shade(6), 0);
    }

    private static void jam() {
        ChairOnTheRoad x = Due.told("v00001;v10000;v29000;v39000;v40000;v50000;v79000;c00;");
        DUE.is("jam: doctors, hearses, hermits do not nod", x.jam(0), 4);
        x.fetches(0, 0);
        DUE.is("one less", x.jam(0), 3);
        x.sits(6);
        DUE.is("too far for bakers, bishops; pedlars' half is 6", x.jam(0), 0);
        x.sits(4);
        DUE.is("7 of 8, 14 of 16, 4 of 4", x.jam(0), 3);
        DUE.is("armies nod", Due.told("v60001;v00001;").jam(0), 1);
    }

    private static void frontier() {
        ChairOnTheRoad x = Due.told("v00110;v00020;c00;");
        DUE.is("between 11 and 2", x.jam(1), 1);
        x.sits(2);
        DUE.is("at the one", x.jam(1), 1);
        x.sits(11);
        DUE.is("at the other", x.jam(1), 1);
        x.sits(3);
        DUE.is("behind the one", x.jam(1), 0);
        x.sits(6);
        DUE.is("on the greater way round", x.jam(1), 0);
        x.moves(0, 8);
        x.sits(8);
        DUE.is("6 apart, at the one", x.jam(1), 0);
        x.sits(11);
        DUE.is("6 apart, between", x.jam(1), 0);
        x.moves(0, 2);
        x.sits(2);
        DUE.is("all at one place", x.jam(1), 1);
        x.sits(1);
        DUE.is("both at one place, he is not", x.jam(1), 0);
        x = Due.told("v00000;v00020;v00040;c02;");
        DUE.is("three twos", x.jam(1), 3);
        x.sits(1);
        DUE.is("two twos", x.jam(1), 2);
        DUE.is("frontier of none", new ChairOnTheRoad().jam(1), 0);
    }

    private static void chains() {
        // 0 to 1 to 2 to 1; 3 to itself; 4 to nobody; 5 to 4; 6 is not there.
        ChairOnTheRoad x = Due.told("v00001;v00002;v00001;v00003;v00006;v00004;");
        int[] due = {3, 2, 2, 1, 1, 2};
        for (int v = 0; v < 6; v++) {
            DUE.is("chain(" + v + ")", x.chain(v), due[v]);
        }
        DUE.is("the most in one chain", x.jam(2), 3);
        DUE.is("the most of none", new ChairOnTheRoad().jam(2), 0);
        x = Due.told("v00001;v00002;v00003;v00004;v00005;v00006;v00000;");
        for (int v = 0; v < 7; v++) {
            DUE.is("round of seven: chain(" + v + ")", x.chain(v), 7);
        }
        DUE.is("round of seven", x.jam(2), 7);
    }

    private static void refused() {
        ChairOnTheRoad x = Due.told("v00000;v00000;");
        for (int n : new int[] {-1, 61, MIN, MAX}) {
            DUE.is("sitFor(" + n + ")", x.sitFor(n), -1);
            DUE.is("move(0, " + n + ")", x.move(0, n), -1);
            DUE.is("fetch(0, " + n + ")", x.fetch(0, n), -1);
            DUE.is("stepBest(" + n + ")", x.stepBest(n), -1);
            DUE.is("feed(" + n + ")", x.feed(n), -1);
        }
        for (int v : new int[] {-1, 2, 7, MIN, MAX}) {
            DUE.is("move(" + v + ", 0)", x.move(v, 0), -1);
            DUE.is("fetch(" + v + ", 0)", x.fetch(v, 0), -1);
            DUE.is("chain(" + v + ")", x.chain(v), -1);
        }
        for (int v : new int[] {-2, 2, 7, MIN, MAX}) {
            DUE.is("match(" + v + ")", x.match(v), -1);
        }
        for (int what : new int[] {-1, 2, MIN, MAX}) {
            DUE.is("sit(" + what + ")", x.sit(what), -1);
        }
        for (int what : new int[] {-1, 3, MIN, MAX}) {
            DUE.is("jam(" + what + ")", x.jam(what), -1);
        }
        for (int r : new int[] {-1, 7, MIN, MAX}) {
            DUE.is("shade(" + r + ")", x.shade(r), -1);
        }
    }
}
