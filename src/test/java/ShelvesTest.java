/** Promises 35 to 44: the image, what is told, shelves. */
public final class ShelvesTest {
    private static final Due DUE = new Due();
    private static final int MIN = Integer.MIN_VALUE;
    private static final int MAX = Integer.MAX_VALUE;

    public static void main(String[] args) {
        image();
        count();
        keep();
        row();
        put();
        element();
        copy();
        copyRefused();
        cost();
        toss();
        DUE.end();
    }

    private static void image() {
        ChairOnTheRoad x = Due.told("v12034;v05080;c05;k133;s203;d07;");
        DUE.is("restore without an image", x.restore(), -3);
        String before = Due.all(x);
        DUE.is("image", x.image(), 7);
        x.keep(1, 1, 4, 9);
        Due.text(x, 2, "v00000;c01;s511;k000;f00;f11;d60;");
        x.moves(0, 9);
        DUE.is("all is otherwise", before.equals(Due.all(x)) ? 1 : 0, 0);
        DUE.is("restore", x.restore(), 7);
        DUE.is("all is as it was", before.equals(Due.all(x)) ? 1 : 0, 1);
        DUE.is("shelves stay: a kind", x.cost(1), 26);
        DUE.is("shelves stay: a row", x.element(2, 0), 'v');
        x.days(2);
        DUE.is("restored again", x.restore(), 7);
        DUE.is("all is as it was again", before.equals(Due.all(x)) ? 1 : 0, 1);
        x.days(3);
        DUE.is("another image", x.image(), 10);
        x.days(3);
        DUE.is("restored to the other", x.restore(), 10);
        ChairOnTheRoad empty = new ChairOnTheRoad();
        DUE.is("image of none", empty.image(), 0);
        Due.text(empty, 0, "v00000;d01;");
        DUE.is("restored to none", empty.restore(), 0);
        DUE.is("no villages", empty.count(0), 0);
        DUE.is("the number is free again", Due.text(empty, 0, "v30001;"), 1);
        DUE.is("and there", empty.village(0, 0), 3);
    }

    private static void count() {
        ChairOnTheRoad x = Due.told("v00001;v00000;s407;c02;k144;d02;");
        // On day 1 the chair is at 6, too far for both; on day 2 at 10, and both fetch.
        long[] due = {2, 2, 10, 2, 46, 4, 7};
        for (int what = 0; what < 7; what++) {
            DUE.is("count(" + what + ")", x.count(what), due[what]);
        }
        for (int what : new int[] {-1, 7, MIN, MAX}) {
            DUE.is("count(" + what + ")", x.count(what), -1);
        }
        x.sits(9);
        x.sun(3, 0);
        x.days(1);
        DUE.is("nods of both, once more", x.count(3), 4);
    }

    private static void keep() {
        ChairOnTheRoad x = new ChairOnTheRoad();
        DUE.is("keep", x.keep(7, 1, 7, 9), 0);
        DUE.is("it is there", x.toss(7), 109);
        DUE.is("keep nothing", x.keep(7, 0, -5, 77), 0);
        DUE.is("nothing is there", x.toss(7), -11);
        x.keep(0, 1, 2, 5);
        for (int bad : new int[] {-1, 8, MIN, MAX}) {
            DUE.is("keep(" + bad + ", 1, 0, 0)", x.keep(bad, 1, 0, 0), -1);
            DUE.is("keep(" + bad + ", 0, 0, 0)", x.keep(bad, 0, 0, 0), -1);
            DUE.is("keep(0, 1, " + bad + ", 0)", x.keep(0, 1, bad, 0), -1);
        }
        for (int bad : new int[] {-1, 10, MIN, MAX}) {
            DUE.is("keep(0, 1, 0, " + bad + ")", x.keep(0, 1, 0, bad), -1);
        }
        for (int bad : new int[] {-1, 2, MIN, MAX}) {
            DUE.is("keep(0, " + bad + ", 0, 0)", x.keep(0, bad, 0, 0), -1);
        }
        DUE.is("it is as it was", x.toss(0), 105);
        x.row(0, 0, 5);
        DUE.is("a kind in a row's place", x.keep(0, 1, 0, 1), 0);
        DUE.is("no row any more", x.put(0, 0, 0), -12);
    }

    private static void row() {
        ChairOnTheRoad x = new ChairOnTheRoad();
        for (int sort = 0; sort < 3; sort++) {
            DUE.is("row(0, " + sort + ", 100)", x.row(0, sort, 100), 0);
            DUE.is("the last place", x.put(0, 99, 1), 0);
            DUE.is("behind it", x.put(0, 100, 1), -13);
        }
        DUE.is("a row anew", x.row(0, 0, 100), 0);
        DUE.is("0 at first", x.element(0, 99), 0);
        DUE.is("an empty row", x.row(0, 0, 0), 0);
        DUE.is("no place in it", x.put(0, 0, 1), -13);
        x.row(0, 2, 3);
        for (int bad : new int[] {-1, 8, MIN, MAX}) {
            DUE.is("row(" + bad + ", 0, 0)", x.row(bad, 0, 0), -1);
            DUE.is("-1 ahead of -14", x.row(bad, 0, -1), -1);
        }
        for (int bad : new int[] {-1, 3, MIN, MAX}) {
            DUE.is("row(0, " + bad + ", 0)", x.row(0, bad, 0), -1);
            DUE.is("-1 ahead of -14", x.row(0, bad, -1), -1);
        }
        DUE.is("n 101", x.row(0, 0, 101), -1);
        DUE.is("n most", x.row(0, 0, MAX), -1);
        DUE.is("n -1", x.row(0, 0, -1), -14);
        DUE.is("n least", x.row(0, 0, MIN), -14);
        DUE.is("it is as it was", x.put(0, 2, 70000), 0);
        DUE.is("of ints still", x.element(0, 2), 70000);
    }

    private static void put() {
        ChairOnTheRoad x = new ChairOnTheRoad();
        int[] values = {0, 127, 128, 255, 256, -128, -129, 32767, 32768, -32769, 65535, MAX, MIN};
        for (int sort = 0; sort < 3; sort++) {
            x.row(1, sort, 2);
            for (int value : values) {
                long due = sort == 0 ? (byte) value : sort == 1 ? (short) value : value;
                DUE.is("put(1, 1, " + value + ")", x.put(1, 1, value), 0);
                DUE.is("sort " + sort + ": element", x.element(1, 1), due);
                DUE.is("the other stays", x.element(1, 0), 0);
            }
        }
        for (int bad : new int[] {-1, 8, MIN, MAX}) {
            DUE.is("put(" + bad + ", 0, 0)", x.put(bad, 0, 0), -1);
        }
        for (int bad : new int[] {-1, 2, MIN, MAX}) {
            DUE.is("put(1, " + bad + ", 0)", x.put(1, bad, 0), -13);
        }
        DUE.is("put to nothing", x.put(0, 0, 0), -11);
        DUE.is("-11 ahead of -13", x.put(0, -1, 0), -11);
        x.keep(0, 1, 0, 0);
        DUE.is("put to a kind", x.put(0, 0, 0), -12);
        DUE.is("-12 ahead of -13", x.put(0, -1, 0), -12);
    }

    private static int thrown(ChairOnTheRoad x, int d, int i) {
        try {
            x.element(d, i);
            return 0;
        } catch (IllegalArgumentException e) {
            return e.getClass() == IllegalArgumentException.class ? 1 : 3;
        } catch (IllegalStateException e) {
            return e.getClass() == IllegalStateException.class ? 2 : 4;
        }
    }

    private static void element() {
        ChairOnTheRoad x = new ChairOnTheRoad();
        Due.row(x, 0, 2, 5, -6, MIN);
        DUE.is("element(0, 0)", x.element(0, 0), 5);
        DUE.is("element(0, 1)", x.element(0, 1), -6);
        DUE.is("element(0, 2)", x.element(0, 2), MIN);
        for (int bad : new int[] {-1, 8, MIN, MAX}) {
            DUE.is("element(" + bad + ", 0)", thrown(x, bad, 0), 1);
            DUE.is("no shelf ahead of no place", thrown(x, bad, -1), 1);
        }
        for (int bad : new int[] {-1, 3, 100, MIN, MAX}) {
            DUE.is("element(0, " + bad + ")", thrown(x, 0, bad), 2);
        }
        DUE.is("element of nothing", thrown(x, 1, 0), 2);
        x.keep(1, 1, 0, 0);
        DUE.is("element of a kind", thrown(x, 1, 0), 2);
    }

    private static void elements(String call, ChairOnTheRoad x, int d, int... due) {
        for (int i = 0; i < due.length; i++) {
            DUE.is(call + ": element " + i, x.element(d, i), due[i]);
        }
    }

    private static void copy() {
        ChairOnTheRoad x = new ChairOnTheRoad();
        Due.row(x, 0, 1, 1, 2, 3, 4, 5);
        Due.row(x, 1, 1, 9, 9, 9);
        DUE.is("copy", x.copy(0, 1, 1, 0, 2), 2);
        elements("copied", x, 1, 2, 3, 9);
        elements("it stays there", x, 0, 1, 2, 3, 4, 5);
        DUE.is("copy within, on", x.copy(0, 0, 0, 1, 4), 4);
        elements("copied on", x, 0, 1, 1, 2, 3, 4);
        DUE.is("copy within, back", x.copy(0, 1, 0, 0, 4), 4);
        elements("copied back", x, 0, 1, 2, 3, 4, 4);
        DUE.is("copy all", x.copy(1, 0, 0, 2, 3), 3);
        elements("copied all", x, 0, 1, 2, 2, 3, 9);
        DUE.is("copy none", x.copy(0, 0, 1, 0, 0), 0);
        DUE.is("copy none from the end to the end", x.copy(0, 5, 1, 3, 0), 0);
    }

    private static void copyRefused() {
        ChairOnTheRoad x = new ChairOnTheRoad();
        Due.row(x, 0, 1, 1, 2, 3);
        Due.row(x, 1, 1, 7, 8);
        for (int bad : new int[] {-1, 8, MIN, MAX}) {
            DUE.is("copy(" + bad + ", 0, 1, 0, 1)", x.copy(bad, 0, 1, 0, 1), -1);
            DUE.is("copy(0, 0, " + bad + ", 0, 1)", x.copy(0, 0, bad, 0, 1), -1);
            DUE.is("-1 ahead of -11", x.copy(2, 0, bad, 0, 1), -1);
        }
        DUE.is("from nothing", x.copy(2, 0, 1, 0, 1), -11);
        DUE.is("to nothing", x.copy(0, 0, 2, 0, 1), -11);
        x.keep(3, 1, 0, 0);
        DUE.is("-11 of either ahead of -12", x.copy(3, 0, 2, 0, 1), -11);
        DUE.is("-11 of either ahead of -12", x.copy(2, 0, 3, 0, 1), -11);
        DUE.is("from a kind", x.copy(3, 0, 1, 0, 1), -12);
        DUE.is("to a kind", x.copy(0, 0, 3, 0, 1), -12);
        DUE.is("kind to kind", x.copy(3, 0, 3, 0, 0), -12);
        x.row(4, 0, 3);
        x.row(5, 2, 3);
        DUE.is("bytes to shorts", x.copy(4, 0, 0, 0, 1), -12);
        DUE.is("ints to shorts", x.copy(5, 0, 0, 0, 1), -12);
        DUE.is("bytes to a kind", x.copy(4, 0, 3, 0, 0), -12);
        DUE.is("a kind to bytes", x.copy(3, 0, 4, 0, 0), -12);
        DUE.is("-12 ahead of -13", x.copy(4, -1, 0, 0, 1), -12);
        DUE.is("from behind the end", x.copy(0, 2, 1, 0, 2), -13);
        DUE.is("to behind the end", x.copy(0, 0, 1, 1, 2), -13);
        DUE.is("none from behind the end", x.copy(0, 4, 1, 0, 0), -13);
        DUE.is("none to behind the end", x.copy(0, 0, 1, 3, 0), -13);
        for (int bad : new int[] {-1, 4, MIN, MAX}) {
            DUE.is("copy(0, " + bad + ", 1, 0, 1)", x.copy(0, bad, 1, 0, 1), -13);
            DUE.is("copy(0, 0, 1, " + bad + ", 1)", x.copy(0, 0, 1, bad, 1), -13);
            DUE.is("copy(0, 0, 1, 0, " + bad + ")", x.copy(0, 0, 1, 0, bad), -13);
        }
        DUE.is("sums that wrap around", x.copy(0, 1, 1, 1, MAX), -13);
        DUE.is("sums that wrap around", x.copy(0, MAX, 1, MAX, MAX), -13);
        elements("it is as it was", x, 1, 7, 8);
    }

    private static final int[] FIGURES = {0, 1, 5, 9};

    private static void cost() {
        int[][] due = {{4, 4, 4, 4}, {4, 5, 9, 13}, {9, 9, 9, 9}, {4, 4, 4, 4}, {8, 10, 18, 26}, {1, 1, 1, 1},
            {11, 13, 21, 29}, {0, 0, 0, 0}};
        ChairOnTheRoad x = new ChairOnTheRoad();
        for (int kind = 0; kind < 8; kind++) {
            for (int i = 0; i < FIGURES.length; i++) {
                x.keep(0, 1, kind, FIGURES[i]);
                DUE.is("cost of kind " + kind + ", figure " + FIGURES[i], x.cost(0), due[kind][i]);
            }
        }
        refusedByShelf(x);
    }

    private static void toss() {
        int[][] due = {{-15, 1, 5, 9}, {-15, 1, 5, 9}, {-15, 101, 105, 109}, {-15, 101, 105, 109},
            {-15, 210, 218, 226}, {-15, -15, -15, -15}, {-15, 213, 221, 229}, {-15, 101, 105, 109}};
        ChairOnTheRoad x = new ChairOnTheRoad();
        for (int kind = 0; kind < 8; kind++) {
            for (int i = 0; i < FIGURES.length; i++) {
                x.keep(0, 1, kind, FIGURES[i]);
                DUE.is("toss of kind " + kind + ", figure " + FIGURES[i], x.toss(0), due[kind][i]);
                DUE.is("it stays", x.cost(0) >= 0 ? 1 : 0, 1);
            }
        }
    }

    private static void refusedByShelf(ChairOnTheRoad x) {
        for (int bad : new int[] {-1, 8, MIN, MAX}) {
            DUE.is("cost(" + bad + ")", x.cost(bad), -1);
            DUE.is("toss(" + bad + ")", x.toss(bad), -1);
        }
        DUE.is("cost of nothing", x.cost(1), -11);
        DUE.is("toss of nothing", x.toss(1), -11);
        x.row(1, 0, 1);
        DUE.is("cost of a row", x.cost(1), -12);
        DUE.is("toss of a row", x.toss(1), -12);
    }
}
