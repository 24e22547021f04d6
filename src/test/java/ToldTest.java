/** Promises 1 to 10: a new object and the province as told. */
public final class ToldTest {
    private static final Due DUE = new Due();
    private static final int MIN = Integer.MIN_VALUE;
    private static final int MAX = Integer.MAX_VALUE;

    public static void main(String[] args) {
        newObject();
        textIsTold();
        textWithFaultOfForm();
        textWithFaultOfSense();
        textUntilTheLastDay();
        textRefused();
        village();
        villageNumbersByKind();
        comes();
        movesFetchesStocks();
        sitsAndSun();
        oneDayByKind();
        dayByNumbers();
        daysToTheLast();
        DUE.end();
    }

    private static void newObject() {
        ChairOnTheRoad x = new ChairOnTheRoad();
        long[] due = {0, 0, 0, 0, 0, 1, 6};
        for (int what = 0; what < 7; what++) {
            DUE.is("new: count(" + what + ")", x.count(what), due[what]);
        }
        for (int d = 0; d < 8; d++) {
            DUE.is("new: cost(" + d + ")", x.cost(d), -11);
        }
        DUE.is("new: restore()", x.restore(), -3);
        DUE.is("new: village(0, 0)", x.village(0, 0), -1);
    }

    private static void textIsTold() {
        ChairOnTheRoad x = new ChairOnTheRoad();
        DUE.is("text of two", Due.text(x, 0, "v12034;c11;"), 2);
        DUE.is("the text's village", x.village(0, 0), 1);
        DUE.is("the text's figure", x.village(0, 1), 2);
        DUE.is("the text's place", x.village(0, 2), 3);
        DUE.is("the text's fetching", x.village(0, 3), 4);
        DUE.is("the text's stock", x.village(0, 4), 10);
        DUE.is("the text's chair", x.count(2), 11);
        DUE.is("text of sun", Due.text(x, 0, "s511;"), 1);
        DUE.is("the text's step", x.count(5), 5);
        DUE.is("the text's home", x.count(6), 11);
        DUE.is("text of stock", Due.text(x, 0, "k099;f06;"), 2);
        DUE.is("the text's stock", x.village(0, 4), 99);
        DUE.is("the text's fetching", x.village(0, 3), 6);
        DUE.is("text of days", Due.text(x, 0, "d03;"), 1);
        DUE.is("the text's day", x.count(1), 3);
        DUE.is("the text's chair then", x.count(2), (11 + 15) % 12);
        DUE.is("the text stays", x.element(0, 0), 'd');
        DUE.is("told again", x.province(0), 1);
        DUE.is("day then", x.count(1), 6);
        DUE.is("a sun of 0 and 0 ahead", Due.text(x, 0, "s000;s101;"), 2);
        DUE.is("each on what those ahead made", Due.text(x, 0, "f10;v00000;"), -2000);
        DUE.is("each on what those ahead made", Due.text(x, 0, "v00000;f10;"), 2);
    }

    private static void textWithFaultOfForm() {
        ChairOnTheRoad x = Due.told("v00000;");
        String before = Due.all(x);
        String[] texts = {"", "x", "V", ";", "0", "c", "c0", "c00", "c00;x", "c00;;", "c000;", "c0a;", "c:0;", "c/0;",
            "v0000;", "v000000;", "s00;", "s0000;", "k00;", "k0000;", "f0;", "f000;", "d1;", "d100;", "c12;c", "d01;d01"};
        int[] places = {0, 0, 0, 0, 0, 1, 2, 3, 4, 4, 3, 2, 1, 1, 5, 6, 3, 4, 3, 4, 2, 3, 2, 3, 5, 7};
        for (int i = 0; i < texts.length; i++) {
            DUE.is("text \"" + texts[i] + "\"", Due.text(x, 0, texts[i]), -1000 - places[i]);
        }
        Due.row(x, 0, 0, 'c', '0', -1, ';');
        DUE.is("a byte below 0", x.province(0), -1002);
        Due.row(x, 0, 0, 'c', '0', '0' + 256, ';');
        DUE.is("a byte of more bits than it keeps", x.province(0), 1);
        DUE.is("nothing came", before.equals(Due.all(x)) ? 1 : 0, 1);
    }

    private static void textWithFaultOfSense() {
        ChairOnTheRoad x = Due.told("v00000;k050;");
        String before = Due.all(x);
        String[] texts = {"v80000;", "v00120;", "v00990;", "v00007;", "v00009;", "c12;", "s600;", "s012;", "k100;",
            "f10;", "f07;", "d00;", "d61;", "d99;", "d01;c05;c12;", "v00000;k200;", "c01;k133;v00000;",
            "v00000;v00000;v00000;v00000;v00000;v00000;v00000;"};
        int[] places = {0, 0, 0, 0, 0, 0, 0, 0, 0, 0, 0, 0, 0, 0, 8, 7, 4, 42};
        for (int i = 0; i < texts.length; i++) {
            DUE.is("text \"" + texts[i] + "\"", Due.text(x, 0, texts[i]), -2000 - places[i]);
        }
        DUE.is("nothing came", before.equals(Due.all(x)) ? 1 : 0, 1);
        DUE.is("d60 is as it must be", Due.text(x, 0, "d60;"), 1);
        DUE.is("all places", Due.text(x, 0, "v79116;c11;s511;k000;f06;"), 5);
    }

    private static void textUntilTheLastDay() {
        ChairOnTheRoad x = Due.told("s000;");
        StringBuilder sixteen = new StringBuilder();
        for (int i = 0; i < 16; i++) {
            sixteen.append("d60;");
        }
        DUE.is("960 days and 40", Due.text(x, 0, sixteen + "d40;"), -2064);
        DUE.is("day as ahead", x.count(1), 0);
        DUE.is("960 days and 39", Due.text(x, 0, sixteen + "d39;"), 17);
        DUE.is("day", x.count(1), 999);
        DUE.is("one more", Due.text(x, 0, "d01;"), -2000);
        ChairOnTheRoad long100 = new ChairOnTheRoad();
        DUE.is("100 bytes", Due.text(long100, 0, "d01;".repeat(25)), 25);
        DUE.is("100 bytes, the last lacks", Due.text(long100, 0, "d01;".repeat(24) + "v000"), -1100);
    }

    private static void textRefused() {
        ChairOnTheRoad x = new ChairOnTheRoad();
        for (int d : new int[] {-1, 8, MIN, MAX}) {
            DUE.is("province(" + d + ")", x.province(d), -1);
        }
        DUE.is("province of nothing", x.province(0), -11);
        x.keep(0, 1, 0, 0);
        DUE.is("province of a kind", x.province(0), -12);
        x.row(0, 1, 4);
        DUE.is("province of shorts", x.province(0), -12);
        x.row(0, 2, 0);
        DUE.is("province of ints", x.province(0), -12);
    }

    private static void village() {
        ChairOnTheRoad x = Due.told("v12034;v05081;c05;k133;");
        long[] first = {1, 2, 3, 4, 10, -4, 0, 8};
        long[] second = {0, 5, 8, 1, 33, -4, 0, 7};
        for (int what = 0; what < 8; what++) {
            DUE.is("village(0, " + what + ")", x.village(0, what), first[what]);
            DUE.is("village(1, " + what + ")", x.village(1, what), second[what]);
        }
        x.fetches(0, 1);
        x.fetches(1, 0);
        DUE.is("a baker's way by the chair", x.village(0, 5), 2 + 3 - 1);
        DUE.is("a village's way by the chair", x.village(1, 5), 3 + 2);
        DUE.is("it can", x.village(0, 6), 1);
        x.sits(0);
        DUE.is("a village's longer way", x.village(1, 5), 4 + 3);
        DUE.is("just what it goes", x.village(1, 6), 1);
        x.sits(11);
        DUE.is("a village's longest way", x.village(1, 5), 3 + 4);
        x.sits(1);
        x.moves(1, 6);
        DUE.is("a way of 5 and 2", x.village(1, 5), 7);
        x.moves(1, 7);
        DUE.is("a way of 6 and 2", x.village(1, 5), 8);
        DUE.is("more than it goes", x.village(1, 6), 0);
        for (int v : new int[] {-1, 2, 7, MIN, MAX}) {
            DUE.is("village(" + v + ", 0)", x.village(v, 0), -1);
        }
        for (int what : new int[] {-1, 8, MIN, MAX}) {
            DUE.is("village(0, " + what + ")", x.village(0, what), -1);
        }
    }

    private static void villageNumbersByKind() {
        int[] figures = {0, 4, 9};
        int[][] goes = {{6, 7, 9}, {8, 9, 11}, {0, 4, 9}, {0, 2, 4}, {16, 18, 22}, {4, 4, 4}, {17, 19, 23}, {0, 0, 0}};
        for (int kind = 0; kind < 8; kind++) {
            for (int i = 0; i < 3; i++) {
                ChairOnTheRoad x = Due.told("v" + kind + figures[i] + "000;");
                DUE.is("goes of kind " + kind + ", figure " + figures[i], x.village(0, 7), goes[kind][i]);
            }
        }
    }

    private static void comes() {
        ChairOnTheRoad x = new ChairOnTheRoad();
        DUE.is("comes of nothing", x.comes(0, 0), -11);
        x.row(0, 0, 1);
        DUE.is("comes of a row", x.comes(0, 0), -12);
        x.keep(0, 1, 5, 7);
        for (int bad : new int[] {-1, 12, MIN, MAX}) {
            DUE.is("comes(0, " + bad + ")", x.comes(0, bad), -1);
        }
        for (int bad : new int[] {-1, 8, MIN, MAX}) {
            DUE.is("comes(" + bad + ", 0)", x.comes(bad, 0), -1);
        }
        DUE.is("-1 ahead of -11", x.comes(1, 12), -1);
        for (int v = 0; v < 7; v++) {
            DUE.is("comes(0, " + v + ")", x.comes(0, 11 - v), v);
            DUE.is("fetches from itself", x.village(v, 3), v);
            DUE.is("its kind", x.village(v, 0), 5);
            DUE.is("its figure", x.village(v, 1), 7);
            DUE.is("its place", x.village(v, 2), 11 - v);
            DUE.is("its stock", x.village(v, 4), 10);
        }
        DUE.is("no room", x.comes(0, 0), -2);
        DUE.is("-1 ahead of -2", x.comes(0, 12), -1);
        DUE.is("-11 ahead of -2", x.comes(1, 0), -11);
        x.row(1, 2, 0);
        DUE.is("-12 ahead of -2", x.comes(1, 0), -12);
        DUE.is("still seven", x.count(0), 7);
        DUE.is("it stays on the shelf", x.cost(0), 1);
    }

    private static void movesFetchesStocks() {
        ChairOnTheRoad x = Due.told("v00030;");
        DUE.is("moves", x.moves(0, 11), 3);
        DUE.is("moves on", x.moves(0, 0), 11);
        DUE.is("moves to where it is", x.moves(0, 0), 0);
        DUE.is("fetches", x.fetches(0, 6), 0);
        DUE.is("fetches again", x.fetches(0, 0), 6);
        DUE.is("stocks", x.stocks(0, 99), 10);
        DUE.is("stocks again", x.stocks(0, 0), 99);
        for (int bad : new int[] {-1, 12, MIN, MAX}) {
            DUE.is("moves(0, " + bad + ")", x.moves(0, bad), -1);
        }
        for (int bad : new int[] {-1, 7, MIN, MAX}) {
            DUE.is("fetches(0, " + bad + ")", x.fetches(0, bad), -1);
        }
        for (int bad : new int[] {-1, 100, MIN, MAX}) {
            DUE.is("stocks(0, " + bad + ")", x.stocks(0, bad), -1);
        }
        for (int bad : new int[] {-1, 1, 7, MIN, MAX}) {
            DUE.is("moves(" + bad + ", 0)", x.moves(bad, 0), -1);
            DUE.is("fetches(" + bad + ", 0)", x.fetches(bad, 0), -1);
            DUE.is("stocks(" + bad + ", 0)", x.stocks(bad, 0), -1);
        }
        DUE.is("place as last told", x.village(0, 2), 0);
        DUE.is("fetching as last told", x.village(0, 3), 0);
        DUE.is("stock as last told", x.village(0, 4), 0);
    }

    private static void sitsAndSun() {
        ChairOnTheRoad x = new ChairOnTheRoad();
        DUE.is("sits", x.sits(11), 0);
        DUE.is("sits again", x.sits(4), 11);
        DUE.is("sun", x.sun(5, 11), 106);
        DUE.is("sun again", x.sun(0, 0), 511);
        for (int bad : new int[] {-1, 12, MIN, MAX}) {
            DUE.is("sits(" + bad + ")", x.sits(bad), -1);
            DUE.is("sun(0, " + bad + ")", x.sun(0, bad), -1);
        }
        for (int bad : new int[] {-1, 6, MIN, MAX}) {
            DUE.is("sun(" + bad + ", 0)", x.sun(bad, 0), -1);
        }
        DUE.is("chair as last told", x.count(2), 4);
        DUE.is("sun as last told", x.sun(2, 3), 0);
    }

    private static void oneDayByKind() {
        int[] brings = {3, 7, 2, 2, 8, 3, 9, 2};
        int[] eats = {2, 1, 2, 0, 3, 1, 6, 1};
        int[] nods = {1, 1, 0, 0, 1, 1, 1, 0};
        for (int kind = 0; kind < 8; kind++) {
            ChairOnTheRoad x = Due.told("v" + kind + "7001;v00001;k150;s000;");
            DUE.is("kind " + kind + ": days(1)", x.days(1), 60 - eats[kind] - 2);
            DUE.is("kind " + kind + ": its stock", x.village(0, 4), 10 + brings[kind] - eats[kind]);
            DUE.is("kind " + kind + ": the other's", x.village(1, 4), 50 - brings[kind] - 2);
            DUE.is("kind " + kind + ": nods", x.count(3), nods[kind]);
        }
    }

    private static void dayByNumbers() {
        // All three fetch round: 0 from 1, 1 from 2, 2 from 0, each one's doings seen by the next.
        ChairOnTheRoad x = Due.told("v09001;v09002;v09000;s000;k001;k102;k200;");
        DUE.is("a day round", x.days(1), 0);
        DUE.is("nods though there is nothing", x.count(3), 3);
        // 0 takes 2 of 1: 3, eats 2: 1; 1 takes 0 of 2: 0; 2 takes 1 of 0: 1, eats 2: 0.
        DUE.is("who was taken from last", x.village(0, 4), 0);
        x = Due.told("v19001;v00001;s000;k095;k120;");
        x.days(1);
        DUE.is("99 at most, then it eats", x.village(0, 4), 98);
        DUE.is("what is more is lost", x.village(1, 4), 20 - 9 - 2);
        // The chair goes first: from 0 to 5 (way 10 of 7) and home at 0 on day 12.
        x = Due.told("v03001;v00001;s500;d11;k050;k150;");
        DUE.is("chair", x.count(2), 55 % 12);
        x.days(1);
        DUE.is("home", x.count(2), 0);
        DUE.is("it can by where the chair is then", x.village(0, 4), 51);
        x.days(1);
        DUE.is("it can't", x.village(0, 4), 49);
        DUE.is("chair on", x.count(2), 5);
    }

    private static void daysToTheLast() {
        ChairOnTheRoad x = Due.told("v19001;v19000;s000;");
        for (int bad : new int[] {-1, 0, 61, MIN, MAX}) {
            DUE.is("days(" + bad + ")", x.days(bad), -1);
        }
        for (int i = 0; i < 16; i++) {
            x.days(60);
        }
        DUE.is("day", x.count(1), 960);
        DUE.is("nods", x.count(3), 1920);
        String before = Due.all(x);
        DUE.is("days(40) at 960", x.days(40), -3);
        DUE.is("-1 ahead of -3", x.days(61), -1);
        DUE.is("none of them goes", before.equals(Due.all(x)) ? 1 : 0, 1);
        x.days(39);
        DUE.is("day", x.count(1), 999);
        DUE.is("days(1) at 999", x.days(1), -3);
    }
}
