/** The boundary cases of promises 35 to 44: the image, what is told, shelves. */
public final class EdgeShelvesTest {
    private static final Edge EDGE = new Edge();

    public static void main(String[] args) {
        imageOfAllThatThereIs();
        imageTakenAnew();
        imageOfNoVillages();
        restoreNone();
        restoreAgain();
        restoreShelvesStay();
        count();
        countOthers();
        keepNothing();
        keepKinds();
        keepRefused();
        shelvesNothingAtFirst();
        rowZeroAtFirst();
        rowSizes();
        rowRefused();
        rowSizeBelow0();
        rowRefusalsInOrder();
        putLowestBits();
        putNoPlace();
        putRefused();
        putRefusalsInOrder();
        elementRead();
        elementNoShelf();
        elementNoRow();
        elementNoPlace();
        copyWithinOne();
        copyNone();
        copyNoShelf();
        copyNothingHeld();
        copyOfOneSort();
        copyNoPlace();
        copySizeNotAsTold();
        copyRefusalsInOrder();
        costByKind();
        costHalfCut();
        costRefused();
        tossByKind();
        tossBishops();
        tossNone();
        tossRefused();
        anotherKind();
        failureThatIsNone();
        noSuchOne();
        notAsItMustBe();
        none();
        nothingChanges();
        last512thCall();
        EDGE.end(35, 44);
    }

    private static final String FULL = "v12034;v05081;c05;k133;s203;d07;";

    private static void imageOfAllThatThereIs() {
        EDGE.of(35, "THE IMAGE: all that there is, but SHELVES (and THE IMAGE)");
        ChairOnTheRoad x = Due.told(FULL);
        String before = Due.all(x);
        EDGE.is("the day", x.image(), 7);
        EDGE.isTrue("nothing changes", before.equals(Due.all(x)));
        Due.text(x, 0, "v79116;f02;f11;k000;k199;c11;s511;d60;");
        x.moves(0, 9);
        EDGE.isTrue("all is otherwise", !before.equals(Due.all(x)));
        x.restore();
        EDGE.isTrue("all is as it was", before.equals(Due.all(x)));
        ChairOnTheRoad y = Due.told(FULL);
        EDGE.is("as if it had never been otherwise: stock", x.days(60), y.days(60));
        EDGE.isTrue("as if it had never been otherwise: all", Due.all(x).equals(Due.all(y)));
    }

    private static void imageTakenAnew() {
        EDGE.of(35, "THE IMAGE is taken: DAY.");
        ChairOnTheRoad x = new ChairOnTheRoad();
        EDGE.is("on day 0", x.image(), 0);
        x.days(60);
        EDGE.is("on day 60", x.image(), 60);
        x.days(1);
        EDGE.is("restored", x.restore(), 60);
        Due.text(x, 0, "d60;".repeat(15) + "d39;");
        EDGE.is("on day 999", x.image(), 999);
        EDGE.is("the day stays", x.count(1), 999);
    }

    private static void imageOfNoVillages() {
        EDGE.of(35, "RESTORED all is as it was then.");
        ChairOnTheRoad x = new ChairOnTheRoad();
        x.image();
        Due.text(x, 0, "v79006;".repeat(7));
        EDGE.is("seven", x.count(0), 7);
        EDGE.is("restored", x.restore(), 0);
        EDGE.is("none", x.count(0), 0);
        EDGE.is("no number 0", x.village(0, 0), -1);
        EDGE.is("the numbers are free", Due.text(x, 0, "v00001;".repeat(7)), 7);
        int[] due = {0, 0, 0, 1, 10};
        for (int what = 0; what < due.length; what++) {
            EDGE.is("village(0, " + what + ")", x.village(0, what), due[what]);
        }
    }

    private static void restoreNone() {
        EDGE.of(36, "THE IMAGE is RESTORED: DAY. -3 there is none.");
        ChairOnTheRoad x = Due.told(FULL);
        String before = Due.all(x);
        EDGE.is("none was taken", x.restore(), -3);
        EDGE.isTrue("nothing changes", before.equals(Due.all(x)));
        x.image();
        EDGE.is("one was taken", x.restore(), 7);
        EDGE.is("none of another object", new ChairOnTheRoad().restore(), -3);
    }

    private static void restoreAgain() {
        EDGE.of(36, "RESTORED all is as it was then.");
        ChairOnTheRoad x = Due.told(FULL);
        x.image();
        String then = Due.all(x);
        for (int i = 1; i <= 3; i++) {
            x.days(i);
            x.stocks(1, i);
            x.sits(i);
            EDGE.is("restored, time " + i, x.restore(), 7);
            EDGE.isTrue("all is as it was, time " + i, then.equals(Due.all(x)));
        }
        EDGE.is("restored, with nothing between", x.restore(), 7);
    }

    private static void restoreShelvesStay() {
        EDGE.of(36, "when THE IMAGE is RESTORED, SHELVES stay as they are");
        ChairOnTheRoad x = Due.told(FULL);
        x.keep(0, 1, 4, 9);
        Due.row(x, 1, 2, 5, 6);
        x.image();
        x.keep(0, 0, 0, 0);
        x.keep(1, 1, 6, 2);
        Due.row(x, 2, 1, 7, 8, 9);
        String shelves = Edge.shelves(x);
        x.restore();
        EDGE.isTrue("as they are now, not as they were", shelves.equals(Edge.shelves(x)));
        EDGE.is("what was there", x.cost(0), -11);
        EDGE.is("what is there", x.element(2, 2), 9);
    }

    private static void count() {
        EDGE.of(37, "0 VILLAGES, 1 DAY, 2 where THE CHAIR is, 3 NODS, 4 all STOCK, 5 STEP, 6 HOME");
        ChairOnTheRoad x = new ChairOnTheRoad();
        int[] first = {0, 0, 0, 0, 0, 1, 6};
        for (int what = 0; what < 7; what++) {
            EDGE.is("at first: count(" + what + ")", x.count(what), first[what]);
        }
        x = Due.told("v00001;v00000;v00002;v00003;v00004;v00005;v00006;s011;d01;c09;k099;k199;k299;k399;k499;k599;k699;");
        int[] then = {7, 1, 9, 2, 693, 0, 11};
        for (int what = 0; what < 7; what++) {
            EDGE.is("count(" + what + ")", x.count(what), then[what]);
        }
    }

    private static void countOthers() {
        EDGE.of(37, "-1 for others");
        for (int bad : new int[] {-1, 7, Edge.MIN, Edge.MAX}) {
            EDGE.is("count(" + bad + ")", new ChairOnTheRoad().count(bad), -1);
        }
    }

    private static void keepNothing() {
        EDGE.of(38, "what = 0 nothing (the others do not matter)");
        ChairOnTheRoad x = new ChairOnTheRoad();
        for (int other : new int[] {0, -1, 8, 10, Edge.MIN, Edge.MAX}) {
            x.keep(0, 1, 1, 1);
            EDGE.is("keep(0, 0, " + other + ", " + other + ")", x.keep(0, 0, other, other), 0);
            EDGE.is("nothing is held", x.cost(0), -11);
            x.row(0, 0, 5);
            EDGE.is("keep(0, 0, " + other + ", 0)", x.keep(0, 0, other, 0), 0);
            EDGE.is("nothing is held", x.put(0, 0, 0), -11);
            EDGE.is("nothing again", x.keep(0, 0, 0, other), 0);
        }
    }

    private static void keepKinds() {
        EDGE.of(38, "1 a KIND of VILLAGE of KIND k with a FIGURE: 0. -1.");
        ChairOnTheRoad x = new ChairOnTheRoad();
        for (int d = 0; d < 8; d++) {
            x.row(d, 0, 9);
            EDGE.is("keep(" + d + ", 1, " + d + ", 9)", x.keep(d, 1, d, 9), 0);
            EDGE.is("a kind in the row's place", x.put(d, 0, 0), -12);
            EDGE.is("keep(" + d + ", 1, 7, 0)", x.keep(d, 1, 7, 0), 0);
            EDGE.is("another kind in its place", x.cost(d), 0);
        }
    }

    private static void keepRefused() {
        EDGE.of(38, "with a FIGURE: 0. -1.");
        ChairOnTheRoad x = new ChairOnTheRoad();
        x.keep(0, 1, 1, 5);
        for (int bad : Edge.NO_SHELVES) {
            EDGE.is("keep(" + bad + ", 1, 0, 0)", x.keep(bad, 1, 0, 0), -1);
            EDGE.is("keep(" + bad + ", 0, 0, 0)", x.keep(bad, 0, 0, 0), -1);
            EDGE.is("keep(0, 1, " + bad + ", 0)", x.keep(0, 1, bad, 0), -1);
        }
        for (int bad : new int[] {-1, 10, Edge.MIN, Edge.MAX}) {
            EDGE.is("keep(0, 1, 0, " + bad + ")", x.keep(0, 1, 0, bad), -1);
        }
        for (int bad : new int[] {-1, 2, Edge.MIN, Edge.MAX}) {
            EDGE.is("keep(0, " + bad + ", 0, 0)", x.keep(0, bad, 0, 0), -1);
        }
        EDGE.is("it stays", x.toss(0), 5);
        EDGE.is("its kind stays", x.cost(0), 9);
    }

    private static void shelvesNothingAtFirst() {
        EDGE.of(38, "SHELVES 0 .. 7 each hold nothing (at first), a KIND of VILLAGE, a ROW.");
        ChairOnTheRoad x = new ChairOnTheRoad();
        for (int d = 0; d < 8; d++) {
            EDGE.is("cost(" + d + ")", x.cost(d), -11);
            EDGE.is("put(" + d + ", 0, 0)", x.put(d, 0, 0), -11);
            EDGE.is("thrown by element(" + d + ", 0)", Edge.thrown(x, d, 0), 2);
        }
        EDGE.is("cost(8)", x.cost(8), -1);
        EDGE.is("cost(-1)", x.cost(-1), -1);
    }

    private static void rowZeroAtFirst() {
        EDGE.of(39, "A ROW has a SORT (0 bytes, 1 shorts, 2 ints) and 0 .. 100 elements, 0 at first");
        ChairOnTheRoad x = new ChairOnTheRoad();
        for (int sort = 0; sort < 3; sort++) {
            x.row(0, sort, 100);
            x.put(0, 0, 77);
            x.put(0, 99, 77);
            EDGE.is("row(0, " + sort + ", 100) anew", x.row(0, sort, 100), 0);
            EDGE.is("the first", x.element(0, 0), 0);
            EDGE.is("the last", x.element(0, 99), 0);
            x.put(0, 99, 77);
            x.row(0, sort, 1);
            x.row(0, sort, 100);
            EDGE.is("the last, behind a shorter row", x.element(0, 99), 0);
            x.put(0, 0, 77);
            x.keep(0, 0, 0, 0);
            x.row(0, sort, 1);
            EDGE.is("the first, behind nothing", x.element(0, 0), 0);
        }
    }

    private static void rowSizes() {
        EDGE.of(39, "0 .. 100 elements");
        ChairOnTheRoad x = new ChairOnTheRoad();
        for (int n : new int[] {0, 1, 99, 100}) {
            for (int sort = 0; sort < 3; sort++) {
                EDGE.is("row(7, " + sort + ", " + n + ")", x.row(7, sort, n), 0);
                EDGE.is("its last place", x.put(7, n - 1, 1), n == 0 ? -13 : 0);
                EDGE.is("behind it", x.put(7, n, 1), -13);
            }
        }
    }

    private static void rowRefused() {
        EDGE.of(39, "SHELF d gets a ROW of a SORT: 0. -1 (n above 100)");
        ChairOnTheRoad x = new ChairOnTheRoad();
        Due.row(x, 0, 2, 70000);
        EDGE.is("row(0, 0, 101)", x.row(0, 0, 101), -1);
        EDGE.is("row(0, 0, MAX)", x.row(0, 0, Edge.MAX), -1);
        for (int bad : Edge.NO_SHELVES) {
            EDGE.is("row(" + bad + ", 0, 1)", x.row(bad, 0, 1), -1);
        }
        for (int bad : new int[] {-1, 3, Edge.MIN, Edge.MAX}) {
            EDGE.is("row(0, " + bad + ", 1)", x.row(0, bad, 1), -1);
        }
        EDGE.is("it stays", x.element(0, 0), 70000);
    }

    private static void rowSizeBelow0() {
        EDGE.of(39, "-14 a size below 0");
        ChairOnTheRoad x = new ChairOnTheRoad();
        Due.row(x, 0, 2, 70000);
        EDGE.is("row(0, 0, -1)", x.row(0, 0, -1), -14);
        EDGE.is("row(0, 1, MIN)", x.row(0, 1, Edge.MIN), -14);
        EDGE.is("it stays", x.element(0, 0), 70000);
    }

    private static void rowRefusalsInOrder() {
        EDGE.of(39, "-1 (n above 100); -14.");
        ChairOnTheRoad x = new ChairOnTheRoad();
        EDGE.is("no such shelf, a size below 0", x.row(8, 0, -1), -1);
        EDGE.is("no such sort, a size below 0", x.row(0, 3, -1), -1);
        EDGE.is("no such sort below, a size below 0", x.row(0, -1, Edge.MIN), -1);
    }

    private static void putLowestBits() {
        EDGE.of(40, "what is put in keeps its lowest bits");
        ChairOnTheRoad x = new ChairOnTheRoad();
        int[] put = {127, 128, 255, 256, -128, -129, 32767, 32768, 65535, 65536, -32768, -32769, Edge.MAX, Edge.MIN};
        int[][] due = {
            {127, -128, -1, 0, -128, 127, -1, 0, -1, 0, 0, -1, -1, 0},
            {127, 128, 255, 256, -128, -129, 32767, -32768, -1, 0, -32768, 32767, -1, 0},
            put};
        for (int sort = 0; sort < 3; sort++) {
            x.row(0, sort, 2);
            for (int i = 0; i < put.length; i++) {
                EDGE.is("put(0, 1, " + put[i] + ")", x.put(0, 1, put[i]), 0);
                EDGE.is("of sort " + sort, x.element(0, 1), due[sort][i]);
            }
            EDGE.is("the other stays", x.element(0, 0), 0);
        }
    }

    private static void putNoPlace() {
        EDGE.of(40, "-13 a place that isn't there (a number or a size that isn't as told, too)");
        ChairOnTheRoad x = new ChairOnTheRoad();
        Due.row(x, 0, 2, 5, 6);
        for (int bad : new int[] {-1, 2, 99, 100, Edge.MIN, Edge.MAX}) {
            EDGE.is("put(0, " + bad + ", 1)", x.put(0, bad, 1), -13);
        }
        EDGE.is("they stay", x.element(0, 0) + x.element(0, 1), 11);
        x.row(0, 2, 0);
        EDGE.is("put(0, 0, 1) of no elements", x.put(0, 0, 1), -13);
    }

    private static void putRefused() {
        EDGE.of(40, "Element i of the ROW becomes v: 0. -1, -11, -12, -13.");
        ChairOnTheRoad x = new ChairOnTheRoad();
        for (int bad : Edge.NO_SHELVES) {
            EDGE.is("put(" + bad + ", 0, 0)", x.put(bad, 0, 0), -1);
        }
        EDGE.is("put to nothing", x.put(7, 0, 0), -11);
        x.keep(7, 1, 0, 0);
        EDGE.is("put to a kind", x.put(7, 0, 0), -12);
        x.row(7, 0, 1);
        EDGE.is("put to a row", x.put(7, 0, 0), 0);
    }

    private static void putRefusalsInOrder() {
        EDGE.of(40, "-1, -11, -12, -13.");
        ChairOnTheRoad x = new ChairOnTheRoad();
        EDGE.is("no shelf, no place", x.put(8, -1, 0), -1);
        EDGE.is("nothing held, no place", x.put(0, -1, 0), -11);
        x.keep(0, 1, 0, 0);
        EDGE.is("a kind, no place", x.put(0, -1, 0), -12);
    }

    private static void elementRead() {
        EDGE.of(41, "Element i of the ROW.");
        ChairOnTheRoad x = new ChairOnTheRoad();
        for (int sort = 0; sort < 3; sort++) {
            x.row(7, sort, 100);
            x.put(7, 0, -1);
            x.put(7, 99, -100);
            EDGE.is("the first, sort " + sort, x.element(7, 0), -1);
            EDGE.is("the last, sort " + sort, x.element(7, 99), -100);
        }
        x.put(7, 5, Edge.MIN);
        EDGE.is("the least", x.element(7, 5), -2147483648L);
        x.put(7, 5, Edge.MAX);
        EDGE.is("the greatest", x.element(7, 5), 2147483647L);
    }

    private static void elementNoShelf() {
        EDGE.of(41, "IllegalArgumentException: no such SHELF");
        ChairOnTheRoad x = new ChairOnTheRoad();
        for (int bad : Edge.NO_SHELVES) {
            EDGE.is("element(" + bad + ", 0)", Edge.thrown(x, bad, 0), 1);
            EDGE.is("element(" + bad + ", -1), no such place, too", Edge.thrown(x, bad, -1), 1);
        }
    }

    private static void elementNoRow() {
        EDGE.of(41, "IllegalStateException: no ROW");
        ChairOnTheRoad x = new ChairOnTheRoad();
        for (int d = 0; d < 8; d++) {
            EDGE.is("of nothing", Edge.thrown(x, d, 0), 2);
            x.keep(d, 1, d, 9);
            EDGE.is("of a kind", Edge.thrown(x, d, 0), 2);
        }
        Due.row(x, 0, 0, 5);
        x.keep(0, 0, 0, 0);
        EDGE.is("of a row that is there no more", Edge.thrown(x, 0, 0), 2);
    }

    private static void elementNoPlace() {
        EDGE.of(41, "no such place");
        ChairOnTheRoad x = new ChairOnTheRoad();
        x.row(0, 0, 0);
        EDGE.is("of no elements", Edge.thrown(x, 0, 0), 2);
        x.row(0, 2, 3);
        for (int bad : new int[] {-1, 3, 99, 100, Edge.MIN, Edge.MAX}) {
            EDGE.is("element(0, " + bad + ")", Edge.thrown(x, 0, bad), 2);
        }
        EDGE.is("the last is there", Edge.thrown(x, 0, 2), 0);
    }

    private static void elements(String what, ChairOnTheRoad x, int d, int... due) {
        for (int i = 0; i < due.length; i++) {
            EDGE.is(what + ": element " + i, x.element(d, i), due[i]);
        }
    }

    private static void copyWithinOne() {
        EDGE.of(42, "n elements of the ROW in SHELF d from i on come to that in SHELF e from j on: n.");
        ChairOnTheRoad x = new ChairOnTheRoad();
        for (int sort = 0; sort < 3; sort++) {
            Due.row(x, 0, sort, 1, 2, 3, 4);
            EDGE.is("one place on, in one row", x.copy(0, 0, 0, 1, 3), 3);
            elements("one place on", x, 0, 1, 1, 2, 3);
            EDGE.is("one place back, in one row", x.copy(0, 1, 0, 0, 3), 3);
            elements("one place back", x, 0, 1, 2, 3, 3);
            EDGE.is("to itself", x.copy(0, 0, 0, 0, 4), 4);
            elements("to itself", x, 0, 1, 2, 3, 3);
            Due.row(x, 1, sort, 9, 9, 9, 9, 9);
            EDGE.is("all to the end of another", x.copy(0, 0, 1, 1, 4), 4);
            elements("all to the end of another", x, 1, 9, 1, 2, 3, 3);
            elements("they stay", x, 0, 1, 2, 3, 3);
        }
        x.row(6, 0, 100);
        x.row(7, 0, 100);
        x.put(6, 99, 5);
        EDGE.is("a hundred", x.copy(6, 0, 7, 0, 100), 100);
        EDGE.is("the hundredth", x.element(7, 99), 5);
    }

    private static void copyNone() {
        EDGE.of(42, "from j on: n.");
        ChairOnTheRoad x = new ChairOnTheRoad();
        Due.row(x, 0, 0, 1, 2);
        x.row(1, 0, 0);
        EDGE.is("none", x.copy(0, 0, 0, 1, 0), 0);
        EDGE.is("none from the end", x.copy(0, 2, 0, 0, 0), 0);
        EDGE.is("none to the end", x.copy(0, 0, 0, 2, 0), 0);
        EDGE.is("none of no elements", x.copy(1, 0, 1, 0, 0), 0);
        elements("none", x, 0, 1, 2);
    }

    private static void copyNoShelf() {
        EDGE.of(42, "-1, -11 (either), -12 (no ROWS of one SORT), -13.");
        ChairOnTheRoad x = new ChairOnTheRoad();
        x.row(0, 0, 1);
        for (int bad : Edge.NO_SHELVES) {
            EDGE.is("copy(" + bad + ", 0, 0, 0, 1)", x.copy(bad, 0, 0, 0, 1), -1);
            EDGE.is("copy(0, 0, " + bad + ", 0, 1)", x.copy(0, 0, bad, 0, 1), -1);
            EDGE.is("copy(" + bad + ", 0, " + bad + ", 0, 1)", x.copy(bad, 0, bad, 0, 1), -1);
        }
    }

    private static void copyNothingHeld() {
        EDGE.of(42, "-11 (either)");
        ChairOnTheRoad x = new ChairOnTheRoad();
        x.row(0, 0, 1);
        EDGE.is("from nothing", x.copy(1, 0, 0, 0, 1), -11);
        EDGE.is("to nothing", x.copy(0, 0, 1, 0, 1), -11);
        EDGE.is("from nothing to nothing", x.copy(1, 0, 2, 0, 1), -11);
        EDGE.is("none to nothing", x.copy(0, 0, 1, 0, 0), -11);
    }

    private static void copyOfOneSort() {
        EDGE.of(42, "-12 (no ROWS of one SORT)");
        ChairOnTheRoad x = new ChairOnTheRoad();
        for (int d = 0; d < 3; d++) {
            x.row(d, d, 2);
            x.put(d, 0, 7);
        }
        x.keep(3, 1, 0, 1);
        x.keep(4, 1, 0, 1);
        for (int d = 0; d < 5; d++) {
            for (int e = 0; e < 5; e++) {
                boolean oneSort = d == e && d < 3;
                EDGE.is("copy(" + d + ", 0, " + e + ", 1, 1)", x.copy(d, 0, e, 1, 1), oneSort ? 1 : -12);
                EDGE.is("copy(" + d + ", 0, " + e + ", 0, 0)", x.copy(d, 0, e, 0, 0), oneSort ? 0 : -12);
            }
        }
    }

    private static void copyNoPlace() {
        EDGE.of(42, "-13 a place that isn't there");
        ChairOnTheRoad x = new ChairOnTheRoad();
        Due.row(x, 0, 1, 1, 2, 3);
        Due.row(x, 1, 1, 7, 8);
        EDGE.is("the last two to two", x.copy(0, 1, 1, 0, 2), 2);
        EDGE.is("from one behind the end", x.copy(0, 2, 1, 0, 2), -13);
        EDGE.is("to one behind the end", x.copy(0, 0, 1, 1, 2), -13);
        EDGE.is("more than there are to", x.copy(0, 0, 1, 0, 3), -13);
        EDGE.is("more than there are from", x.copy(1, 0, 0, 0, 3), -13);
        for (int bad : new int[] {-1, 4, 100, Edge.MIN, Edge.MAX}) {
            EDGE.is("copy(0, " + bad + ", 1, 0, 1)", x.copy(0, bad, 1, 0, 1), -13);
            EDGE.is("copy(0, 0, 1, " + bad + ", 1)", x.copy(0, 0, 1, bad, 1), -13);
            EDGE.is("none from " + bad, x.copy(0, bad, 1, 0, 0), -13);
            EDGE.is("none to " + bad, x.copy(0, 0, 1, bad, 0), -13);
        }
        elements("they stay", x, 1, 2, 3);
    }

    private static void copySizeNotAsTold() {
        EDGE.of(42, "(a number or a size that isn't as told, too)");
        ChairOnTheRoad x = new ChairOnTheRoad();
        Due.row(x, 0, 1, 1, 2, 3);
        for (int bad : new int[] {-1, 4, 101, Edge.MIN, Edge.MAX}) {
            for (int i = 0; i <= 3; i++) {
                EDGE.is("copy(0, " + i + ", 0, 0, " + bad + ")", x.copy(0, i, 0, 0, bad), -13);
                EDGE.is("copy(0, 0, 0, " + i + ", " + bad + ")", x.copy(0, 0, 0, i, bad), -13);
            }
        }
        EDGE.is("numbers whose sum no int can tell", x.copy(0, Edge.MAX, 0, Edge.MAX, Edge.MAX), -13);
        EDGE.is("numbers whose sum is 0", x.copy(0, 1, 0, 1, -1), -13);
        elements("they stay", x, 0, 1, 2, 3);
    }

    private static void copyRefusalsInOrder() {
        EDGE.of(42, "Answers of several REFUSALS are the first one as they are told at the call.");
        ChairOnTheRoad x = new ChairOnTheRoad();
        x.row(0, 0, 1);
        x.row(1, 1, 1);
        x.keep(2, 1, 0, 0);
        EDGE.is("nothing held, no such shelf", x.copy(7, 0, 8, 0, 1), -1);
        EDGE.is("a kind, no such shelf", x.copy(2, -1, -1, 0, 1), -1);
        EDGE.is("a kind, nothing held", x.copy(2, 0, 7, 0, 1), -11);
        EDGE.is("nothing held, a kind", x.copy(7, 0, 2, 0, 1), -11);
        EDGE.is("nothing held, no place", x.copy(7, -1, 0, 0, 1), -11);
        EDGE.is("two sorts, no place", x.copy(0, -1, 1, 0, 1), -12);
        EDGE.is("a kind, a size below 0", x.copy(0, 0, 2, 0, -1), -12);
        EDGE.is("no place", x.copy(0, -1, 0, 0, 1), -13);
    }

    private static void costs(int kind, String sentence, int... due) {
        EDGE.of(43, sentence);
        ChairOnTheRoad x = new ChairOnTheRoad();
        for (int figure = 0; figure <= 9; figure++) {
            x.keep(0, 1, kind, figure);
            EDGE.is("figure " + figure, x.cost(0), due[figure]);
        }
    }

    private static void costByKind() {
        costs(0, "VILLAGE 4", 4, 4, 4, 4, 4, 4, 4, 4, 4, 4);
        costs(1, "BAKER FIGURE more", 4, 5, 6, 7, 8, 9, 10, 11, 12, 13);
        costs(2, "DOCTOR 9", 9, 9, 9, 9, 9, 9, 9, 9, 9, 9);
        costs(4, "BISHOP twice a BAKER's", 8, 10, 12, 14, 16, 18, 20, 22, 24, 26);
        costs(5, "PEDLAR 1", 1, 1, 1, 1, 1, 1, 1, 1, 1, 1);
        costs(6, "ARMY 3 more than a BISHOP", 11, 13, 15, 17, 19, 21, 23, 25, 27, 29);
        costs(7, "HERMIT 0", 0, 0, 0, 0, 0, 0, 0, 0, 0, 0);
    }

    private static void costHalfCut() {
        costs(3, "HEARSE half of a DOCTOR's, cut", 4, 4, 4, 4, 4, 4, 4, 4, 4, 4);
    }

    private static void costRefused() {
        EDGE.of(43, "-1, -11, -12 (a ROW).");
        ChairOnTheRoad x = new ChairOnTheRoad();
        for (int bad : Edge.NO_SHELVES) {
            EDGE.is("cost(" + bad + ")", x.cost(bad), -1);
        }
        EDGE.is("cost of nothing", x.cost(7), -11);
        for (int sort = 0; sort < 3; sort++) {
            x.row(7, sort, 0);
            EDGE.is("cost of a row of sort " + sort, x.cost(7), -12);
        }
    }

    private static void tosses(int kind, String sentence, int... due) {
        EDGE.of(44, sentence);
        ChairOnTheRoad x = new ChairOnTheRoad();
        for (int figure = 0; figure <= 9; figure++) {
            x.keep(0, 1, kind, figure);
            EDGE.is("figure " + figure, x.toss(0), due[figure]);
            EDGE.is("figure " + figure + ", again", x.toss(0), due[figure]);
        }
    }

    private static void tossByKind() {
        int[] doctors = {-15, 101, 102, 103, 104, 105, 106, 107, 108, 109};
        tosses(0, "The FAILURE of the one on SHELF d is thrown, and caught: its FIGURE", -15, 1, 2, 3, 4, 5, 6, 7, 8, 9);
        tosses(1, "its FIGURE", -15, 1, 2, 3, 4, 5, 6, 7, 8, 9);
        tosses(2, "of DOCTORS 100 more", doctors);
        tosses(3, "(of HEARSES, HERMITS, too)", doctors);
        tosses(7, "(of HEARSES, HERMITS, too)", doctors);
    }

    private static void tossBishops() {
        tosses(4, "of BISHOPS 200 plus their COST, in place of all that (FIGURE, too)",
            -15, 210, 212, 214, 216, 218, 220, 222, 224, 226);
        tosses(6, "(of ARMIES, too)", -15, 213, 215, 217, 219, 221, 223, 225, 227, 229);
    }

    private static void tossNone() {
        EDGE.of(44, "-15: PEDLARS, and any with FIGURE 0, have none.");
        ChairOnTheRoad x = new ChairOnTheRoad();
        for (int figure = 0; figure <= 9; figure++) {
            x.keep(0, 1, 5, figure);
            EDGE.is("a pedlar of figure " + figure, x.toss(0), -15);
        }
        for (int kind = 0; kind < 8; kind++) {
            x.keep(0, 1, kind, 0);
            EDGE.is("kind " + kind + " of figure 0", x.toss(0), -15);
            x.keep(0, 1, kind, 1);
            EDGE.is("kind " + kind + " of figure 1", x.toss(0) == -15 ? 1 : 0, kind == 5 ? 1 : 0);
        }
    }

    private static void tossRefused() {
        EDGE.of(44, "-1, -11, -12 (a ROW)");
        ChairOnTheRoad x = new ChairOnTheRoad();
        for (int bad : Edge.NO_SHELVES) {
            EDGE.is("toss(" + bad + ")", x.toss(bad), -1);
        }
        EDGE.is("toss of nothing", x.toss(7), -11);
        x.keep(7, 1, 5, 0);
        EDGE.is("toss of one that has none", x.toss(7), -15);
        for (int sort = 0; sort < 3; sort++) {
            x.row(7, sort, 100);
            EDGE.is("toss of a row of sort " + sort, x.toss(7), -12);
        }
    }

    private static void anotherKind() {
        EDGE.of(43, "-12 it is of another kind");
        ChairOnTheRoad x = Due.told("v00000;");
        x.row(0, 1, 1);
        x.row(1, 2, 1);
        x.keep(2, 1, 0, 1);
        int[] rows = {x.cost(0), x.toss(0), x.comes(0, 0), x.province(0), x.copy(0, 0, 1, 0, 1)};
        for (int i = 0; i < rows.length; i++) {
            EDGE.is("a row, call " + i, rows[i], -12);
        }
        int[] kinds = {x.put(2, 0, 0), x.province(2), x.copy(2, 0, 2, 0, 1), x.whereSat(2, 0), x.whatIs(2, 0, 0), x.forged(2),
            x.judge(2)};
        for (int i = 0; i < kinds.length; i++) {
            EDGE.is("a kind, call " + i, kinds[i], -12);
        }
    }

    private static void failureThatIsNone() {
        EDGE.of(44, "-15 a FAILURE that is none");
        ChairOnTheRoad x = new ChairOnTheRoad();
        x.keep(0, 1, 5, 9);
        EDGE.is("a pedlar", x.toss(0), -15);
        x.keep(0, 1, 6, 0);
        EDGE.is("an army of figure 0", x.toss(0), -15);
        EDGE.is("it stays", x.cost(0), 11);
    }

    private static void noSuchOne() {
        EDGE.of(37, "-1 no such one, one twice, a number out of its range");
        ChairOnTheRoad x = Due.told("v00000;v00000;");
        EDGE.is("no such village", x.village(2, 0), -1);
        EDGE.is("no such shelf", x.cost(8), -1);
        EDGE.is("one twice", x.two(1, 1, 0), -1);
        EDGE.is("a number out of its range", x.count(7), -1);
    }

    private static void notAsItMustBe() {
        EDGE.of(36, "-3 it is not as it must be");
        ChairOnTheRoad x = Due.told("d60;".repeat(16) + "d39;");
        EDGE.is("no image", x.restore(), -3);
        EDGE.is("no day", x.days(1), -3);
    }

    private static void none() {
        EDGE.of(35, "-4 none.");
        ChairOnTheRoad x = Due.told("v30000;");
        x.row(0, 0, 0);
        int[] none = {x.village(0, 5), x.firstCan(0), x.hungry(0), x.hungry(-1), x.fetch(0, 60), x.match(-1), x.match(0),
            x.feed(60), x.forged(0), x.judge(0)};
        for (int i = 0; i < none.length; i++) {
            EDGE.is("call " + i, none[i], -4);
        }
    }

    private static void nothingChanges() {
        EDGE.of(42, "REFUSALS (answers; nothing changes)");
        ChairOnTheRoad x = Due.told(FULL);
        x.keep(0, 1, 4, 9);
        Due.row(x, 1, 1, 1, 2, 3);
        Due.row(x, 2, 2, 70000);
        String province = Due.all(x);
        String shelves = Edge.shelves(x);
        int[] refused = {x.restore(), x.count(7), x.keep(0, 1, 8, 0), x.keep(1, 1, 0, 10), x.keep(1, 2, 0, 0),
            x.row(0, 3, 1), x.row(1, 0, 101), x.row(1, 0, -1), x.put(0, 0, 1), x.put(1, 3, 1), x.put(3, 0, 1), x.put(8, 0, 1),
            x.copy(1, 0, 2, 0, 1), x.copy(1, 0, 1, 1, 3), x.copy(1, 0, 0, 0, 1), x.copy(1, 0, 3, 0, 1), x.cost(1), x.cost(3),
            x.toss(1), x.toss(8), Edge.thrown(x, 8, 0), Edge.thrown(x, 0, 0), Edge.thrown(x, 1, 3)};
        int[] due = {-3, -1, -1, -1, -1, -1, -1, -14, -12, -13, -11, -1, -12, -13, -12, -11, -12, -11, -12, -1, 1, 2, 2};
        for (int i = 0; i < due.length; i++) {
            EDGE.is("refusal " + i, refused[i], due[i]);
        }
        EDGE.isTrue("the province is as it was", province.equals(Due.all(x)));
        EDGE.isTrue("the shelves are as they were", shelves.equals(Edge.shelves(x)));
        EDGE.is("there is no image still", x.restore(), -3);
    }

    private static void last512thCall() {
        EDGE.of(37, "0 VILLAGES, 1 DAY");
        ChairOnTheRoad x = new ChairOnTheRoad();
        x.keep(0, 1, 0, 9);
        for (int i = 0; i < 509; i++) {
            x.toss(0);
        }
        EDGE.is("the 511th call", x.comes(0, 0), 0);
        EDGE.is("the 512th call", x.count(0), 1);
    }
}
