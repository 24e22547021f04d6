/** Promises 11 to 16: days on, in mind. */
public final class DaysOnTest {
    private static final Due DUE = new Due();
    private static final int MIN = Integer.MIN_VALUE;
    private static final int MAX = Integer.MAX_VALUE;

    public static void main(String[] args) {
        then();
        thenBehindTheLastDay();
        nodsOfAllDays();
        stockThen();
        firstCan();
        hungry();
        round();
        way();
        refused();
        DUE.end();
    }

    private static void then() {
        // A village at 0 (goes 6) fetches from one at 3; the chair goes 0, 1, 2 .. and is home at 6 on day 12.
        ChairOnTheRoad x = Due.told("v00001;v00031;k199;");
        String before = Due.all(x);
        DUE.is("then(0, 0)", x.then(0, 0), 0);
        DUE.is("then(5, 0)", x.then(5, 0), 5);
        DUE.is("then(11, 0)", x.then(11, 0), 11);
        DUE.is("then(12, 0)", x.then(12, 0), 6);
        DUE.is("then(24, 0)", x.then(24, 0), 6);
        DUE.is("then(60, 0)", x.then(60, 0), 6);
        DUE.is("then(0, 2)", x.then(0, 2), 1);
        DUE.is("then(4, 2): way 5", x.then(4, 2), 1);
        DUE.is("then(5, 2): way 7", x.then(5, 2), 0);
        DUE.is("then(4, 1)", x.then(4, 1), 4);
        DUE.is("then(9, 1): not on days 5 to 9", x.then(9, 1), 4);
        DUE.is("then(10, 1): way 2 and 5", x.then(10, 1), 4);
        DUE.is("then(11, 1): way 1 and 4", x.then(11, 1), 5);
        DUE.is("then(0, 3)", x.then(0, 3), 109);
        DUE.is("then(2, 3)", x.then(2, 3), 109 - 8);
        DUE.is("nothing changed", before.equals(Due.all(x)) ? 1 : 0, 1);
        x = Due.told("v00001;v09000;v00072;s000;");
        DUE.is("bits of two", x.then(1, 2), 3);
        DUE.is("bits now", x.then(0, 2), 3);
    }

    private static void thenBehindTheLastDay() {
        ChairOnTheRoad x = Due.told("s107;" + "d60;".repeat(16) + "d39;");
        DUE.is("chair on day 999", x.count(2), 7 + 3);
        DUE.is("chair on day 1008", x.then(9, 0), 7);
        DUE.is("chair on day 1009", x.then(10, 0), 8);
        DUE.is("chair on day 1007", x.then(8, 0), 6);
    }

    private static void nodsOfAllDays() {
        ChairOnTheRoad x = Due.told("v00001;v00000;v00000;v00000;v00000;v00000;v00000;s000;");
        for (int i = 0; i < 16; i++) {
            x.days(60);
        }
        DUE.is("nods of 960 days", x.count(3), 6720);
        x.days(39);
        DUE.is("nods of 999 days", x.count(3), 6993);
        DUE.is("nods 60 days on", x.then(60, 1), 6993 + 420);
    }

    private static void stockThen() {
        ChairOnTheRoad x = Due.told("v00001;v00031;k199;");
        DUE.is("stockThen(0, 0)", x.stockThen(0, 0), 10);
        DUE.is("stockThen(0, 4)", x.stockThen(0, 4), 14);
        DUE.is("stockThen(0, 10)", x.stockThen(0, 10), 2);
        DUE.is("stockThen(1, 4)", x.stockThen(1, 4), 99 - 20);
        DUE.is("stockThen(1, 60)", x.stockThen(1, 60), 0);
        DUE.is("it is as it was", x.village(1, 4), 99);
    }

    private static void firstCan() {
        ChairOnTheRoad x = Due.told("v00001;v00031;c05;");
        // Ways with the chair at 5 .. 10 are 7, 9, 9, 9, 9, 7; at 11 it is 5.
        DUE.is("firstCan(0)", x.firstCan(0), 6);
        DUE.is("firstCan of one that fetches from itself", x.firstCan(1), -4);
        x.fetches(1, 6);
        DUE.is("firstCan of one that fetches from nobody", x.firstCan(1), -4);
        x.sits(2);
        DUE.is("firstCan now", x.firstCan(0), 0);
        x = Due.told("v00001;v00031;c06;s001;");
        DUE.is("firstCan at home on day 12", x.firstCan(0), 12);
        // The hermit's way is straight and never 0.
        x = Due.told("v79001;v00031;s500;");
        DUE.is("firstCan never", x.firstCan(0), -4);
        // An army's way is twice (10 less 1), and 1 more on odd days: 19 at first, of 18 or 19 that it goes.
        x = Due.told("v60001;v00001;c05;s004;d01;");
        DUE.is("an army on an odd day", x.firstCan(0), 11);
        x = Due.told("v63001;v00001;c05;s005;d01;");
        DUE.is("an army that goes farther", x.firstCan(0), 0);
        x = Due.told("v20001;v00001;c00;");
        DUE.is("firstCan of a doctor where it is", x.firstCan(0), 0);
    }

    private static void hungry() {
        ChairOnTheRoad x = Due.told("v00000;v19001;v30002;k005;k104;");
        DUE.is("hungry(0): 5, 3, 1, 0", x.hungry(0), 3);
        DUE.is("hungry(1): 4 by ones", x.hungry(1), 4);
        DUE.is("a hearse eats nothing", x.hungry(2), -4);
        DUE.is("who first", x.hungry(-1), 0);
        x.stocks(0, 8);
        DUE.is("of several the least", x.hungry(-1), 0);
        x.stocks(0, 9);
        DUE.is("who first then", x.hungry(-1), 1);
        x.stocks(1, 0);
        DUE.is("hungry now", x.hungry(1), 0);
        DUE.is("who is now", x.hungry(-1), 1);
        x = Due.told("v10000;k060;");
        DUE.is("on day 60", x.hungry(0), 60);
        DUE.is("who on day 60", x.hungry(-1), 0);
        x.stocks(0, 61);
        DUE.is("on day 61", x.hungry(0), -4);
        DUE.is("nobody", x.hungry(-1), -4);
        DUE.is("nobody there", new ChairOnTheRoad().hungry(-1), -4);
    }

    private static void round() {
        ChairOnTheRoad x = new ChairOnTheRoad();
        DUE.is("round: 11, home at 6, 6 on", x.round(), 18);
        x.sun(0, 3);
        DUE.is("round without steps", x.round(), 1);
        x.sun(3, 0);
        DUE.is("round by threes", x.round(), 4);
        x.sun(5, 0);
        DUE.is("round by home", x.round(), 12);
        x.sun(2, 1);
        DUE.is("round by twos", x.round(), 6);
        DUE.is("nothing changed", x.count(1), 0);
        x.days(11);
        x.sits(1);
        x.sun(4, 0);
        DUE.is("never: by fours from home", x.round(), -4);
    }

    private static void way() {
        int[] even = {8, 7, 2, 7, 14, 4, 14, 2};
        for (int kind = 0; kind < 8; kind++) {
            ChairOnTheRoad x = Due.told("v" + kind + "0010;c04;s000;");
            DUE.is("way of kind " + kind, x.way(0, 11), even[kind]);
            x.days(1);
            DUE.is("way of kind " + kind + " on an odd day", x.way(0, 11), even[kind] + (kind == 6 ? 1 : 0));
            x.days(1);
            DUE.is("way of kind " + kind + " on an even day", x.way(0, 11), even[kind]);
        }
        for (int kind = 0; kind < 8; kind++) {
            ChairOnTheRoad x = Due.told("v" + kind + "0050;c05;");
            DUE.is("way of kind " + kind + " to where all is", x.way(0, 5), 0);
        }
        ChairOnTheRoad x = Due.told("v00000;v20000;c00;");
        for (int place = 0; place < 12; place++) {
            int far = place <= 6 ? place : 12 - place;
            DUE.is("way to " + place, x.way(0, place), far);
            DUE.is("straight to " + place, x.way(1, place), far);
        }
    }

    private static void refused() {
        ChairOnTheRoad x = Due.told("v00000;");
        for (int n : new int[] {-1, 61, MIN, MAX}) {
            DUE.is("then(" + n + ", 0)", x.then(n, 0), -1);
            DUE.is("stockThen(0, " + n + ")", x.stockThen(0, n), -1);
        }
        for (int what : new int[] {-1, 4, MIN, MAX}) {
            DUE.is("then(0, " + what + ")", x.then(0, what), -1);
        }
        for (int v : new int[] {-1, 1, 7, MIN, MAX}) {
            DUE.is("stockThen(" + v + ", 0)", x.stockThen(v, 0), -1);
            DUE.is("firstCan(" + v + ")", x.firstCan(v), -1);
            DUE.is("way(" + v + ", 0)", x.way(v, 0), -1);
        }
        for (int v : new int[] {-2, 1, 7, MIN, MAX}) {
            DUE.is("hungry(" + v + ")", x.hungry(v), -1);
        }
        for (int place : new int[] {-1, 12, MIN, MAX}) {
            DUE.is("way(0, " + place + ")", x.way(0, place), -1);
        }
    }
}
