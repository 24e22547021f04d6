/** The boundary cases of promises 1 and 3 to 10: a new object and the province as told (2 has a test of its own). */
public final class EdgeToldTest {
    private static final Edge EDGE = new Edge();

    public static void main(String[] args) {
        newObject();
        villageWhats();
        villageWayNobody();
        villageCan();
        villageRefused();
        comesFromItself();
        comesOfEveryKind();
        comesRefused();
        comesNothingHeld();
        comesOfARow();
        comesNoRoom();
        comesRefusalsInOrder();
        moves();
        movesRefused();
        fetches();
        fetchesRefused();
        stocks();
        stocksRefused();
        sits();
        sitsRefused();
        sun();
        sunRefused();
        days();
        daysRefused();
        daysAbove999();
        daysRefusalsInOrder();
        nothingChanges();
        EDGE.end(3, 10);
    }

    private static void newObject() {
        EDGE.of(1, "No VILLAGES, THE CHAIR AT 0.");
        ChairOnTheRoad x = new ChairOnTheRoad();
        int[] due = {0, 0, 0, 0, 0, 1, 6};
        for (int what = 0; what < 7; what++) {
            EDGE.is("count(" + what + ")", x.count(what), due[what]);
        }
        EDGE.is("village(0, 0)", x.village(0, 0), -1);
        EDGE.is("chain(0)", x.chain(0), -1);
        EDGE.is("days(60)", x.days(60), 0);
        EDGE.is("another object is as at first", new ChairOnTheRoad().count(1), 0);
    }

    private static void villageWhats() {
        EDGE.of(3, "Of a VILLAGE: KIND (what 0), FIGURE (1), PLACE (2), FETCHING (3), STOCK (4), WAY (5; -4), 1 it CAN (6),"
            + " GOES (7).");
        ChairOnTheRoad x = Due.told("v00000;v00000;v00000;v00000;v00000;v79106;v69115;c04;k600;k599;");
        int[][] due = {{7, 9, 10, 6, 99, 1, 0, 0}, {6, 9, 11, 5, 0, 20, 1, 23}};
        for (int what = 0; what < 8; what++) {
            EDGE.is("village(5, " + what + ")", x.village(5, what), due[0][what]);
            EDGE.is("village(6, " + what + ")", x.village(6, what), due[1][what]);
        }
    }

    private static void villageWayNobody() {
        EDGE.of(3, "WAY of one to whom it fetches from (-4 nobody)");
        for (int kind = 0; kind < 8; kind++) {
            ChairOnTheRoad x = Due.told("v" + kind + "9030;v00031;");
            EDGE.is("kind " + kind + " from itself", x.village(0, 5), -4);
            x.fetches(0, 2);
            EDGE.is("kind " + kind + " from one not there", x.village(0, 5), -4);
            x.fetches(0, 6);
            EDGE.is("kind " + kind + " from 6, not there", x.village(0, 5), -4);
            x.fetches(0, 1);
            x.sits(3);
            EDGE.is("kind " + kind + " from one at its place", x.village(0, 5), 0);
        }
    }

    private static void villageCan() {
        EDGE.of(3, "1 it CAN (6)");
        ChairOnTheRoad x = Due.told("v00001;v00001;c03;");
        EDGE.is("just what it goes", x.village(0, 6), 1);
        x.sits(4);
        EDGE.is("more than it goes", x.village(0, 6), 0);
        EDGE.is("from itself", x.village(1, 6), 0);
    }

    private static void villageRefused() {
        EDGE.of(3, "GOES (7). -1.");
        ChairOnTheRoad x = Due.told("v00000;v00000;");
        for (int bad : new int[] {-1, 2, 6, 7, Edge.MIN, Edge.MAX}) {
            for (int what = 0; what < 8; what++) {
                EDGE.is("village(" + bad + ", " + what + ")", x.village(bad, what), -1);
            }
        }
        for (int bad : new int[] {-1, 8, Edge.MIN, Edge.MAX}) {
            EDGE.is("village(0, " + bad + ")", x.village(0, bad), -1);
            EDGE.is("village(2, " + bad + ")", x.village(2, bad), -1);
        }
    }

    private static void comesFromItself() {
        EDGE.of(4, "The one on SHELF d is a VILLAGE more, AT a PLACE, FETCHING from itself: the number.");
        ChairOnTheRoad x = new ChairOnTheRoad();
        x.keep(7, 1, 7, 9);
        for (int v = 0; v < 7; v++) {
            int place = v == 6 ? 11 : v;
            EDGE.is("comes(7, " + place + ")", x.comes(7, place), v);
            int[] due = {7, 9, place, v, 10, -4, 0};
            for (int what = 0; what < due.length; what++) {
                EDGE.is("village(" + v + ", " + what + ")", x.village(v, what), due[what]);
            }
        }
    }

    private static void comesOfEveryKind() {
        EDGE.of(4, "what is taken from a SHELF, stay there");
        ChairOnTheRoad x = new ChairOnTheRoad();
        int[] cost = {4, 13, 9, 4, 26, 1, 29, 0};
        for (int d = 0; d < 8; d++) {
            x.keep(d, 1, d, 9);
            EDGE.is("comes(" + d + ", 0)", x.comes(d, 0), d < 7 ? d : -2);
            EDGE.is("cost(" + d + ")", x.cost(d), cost[d]);
        }
        for (int v = 0; v < 7; v++) {
            EDGE.is("kind of " + v, x.village(v, 0), v);
        }
        x.keep(0, 0, 0, 0);
        EDGE.is("who came stays, when the shelf holds nothing", x.village(0, 1), 9);
    }

    private static void comesRefused() {
        EDGE.of(4, "-1, -11, -12 (a ROW), -2.");
        ChairOnTheRoad x = new ChairOnTheRoad();
        x.keep(0, 1, 0, 0);
        x.keep(7, 1, 0, 0);
        for (int bad : Edge.NO_SHELVES) {
            EDGE.is("comes(" + bad + ", 0)", x.comes(bad, 0), -1);
        }
        for (int bad : Edge.NO_PLACES) {
            EDGE.is("comes(0, " + bad + ")", x.comes(0, bad), -1);
        }
        EDGE.is("none came", x.count(0), 0);
        EDGE.is("comes(0, 0)", x.comes(0, 0), 0);
        EDGE.is("comes(7, 11)", x.comes(7, 11), 1);
    }

    private static void comesNothingHeld() {
        EDGE.of(4, "-11 nothing is held where something is wanted");
        ChairOnTheRoad x = new ChairOnTheRoad();
        for (int d = 0; d < 8; d++) {
            EDGE.is("comes(" + d + ", 0)", x.comes(d, 0), -11);
        }
        EDGE.is("none came", x.count(0), 0);
    }

    private static void comesOfARow() {
        EDGE.of(4, "-12 (a ROW)");
        ChairOnTheRoad x = new ChairOnTheRoad();
        for (int sort = 0; sort < 3; sort++) {
            x.row(0, sort, 0);
            EDGE.is("of no elements, sort " + sort, x.comes(0, 0), -12);
            x.row(0, sort, 100);
            EDGE.is("of all elements, sort " + sort, x.comes(0, 0), -12);
        }
        EDGE.is("none came", x.count(0), 0);
    }

    private static void comesNoRoom() {
        EDGE.of(4, "-2 there is no room");
        ChairOnTheRoad x = Due.told("v00000;v00001;v00002;v00003;v00004;v00005;");
        x.keep(0, 1, 1, 1);
        EDGE.is("the seventh", x.comes(0, 0), 6);
        String before = Due.all(x);
        EDGE.is("the eighth", x.comes(0, 0), -2);
        EDGE.isTrue("nothing changes", before.equals(Due.all(x)));
    }

    private static void comesRefusalsInOrder() {
        EDGE.of(4, "Answers of several REFUSALS are the first one as they are told at the call.");
        ChairOnTheRoad x = Due.told("v00000;v00001;v00002;v00003;v00004;v00005;v00006;");
        x.row(1, 0, 0);
        x.keep(2, 1, 0, 0);
        EDGE.is("no place, nothing held, no room", x.comes(0, 12), -1);
        EDGE.is("no place, a row, no room", x.comes(1, 12), -1);
        EDGE.is("no place, no room", x.comes(2, -1), -1);
        EDGE.is("no shelf, no room", x.comes(8, 0), -1);
        EDGE.is("nothing held, no room", x.comes(0, 0), -11);
        EDGE.is("a row, no room", x.comes(1, 0), -12);
        EDGE.is("no room", x.comes(2, 0), -2);
    }

    private static void moves() {
        EDGE.of(5, "It is AT another PLACE: the old one.");
        ChairOnTheRoad x = Due.told("v00050;v00111;");
        EDGE.is("moves(0, 11)", x.moves(0, 11), 5);
        EDGE.is("moves(0, 0)", x.moves(0, 0), 11);
        EDGE.is("moves(0, 0) again", x.moves(0, 0), 0);
        EDGE.is("moves(1, 0)", x.moves(1, 0), 11);
        EDGE.is("place of 0", x.village(0, 2), 0);
        EDGE.is("place of 1", x.village(1, 2), 0);
    }

    private static void movesRefused() {
        EDGE.of(5, "the old one. -1.");
        ChairOnTheRoad x = Due.told("v00050;v00111;");
        for (int bad : new int[] {-1, 2, 7, Edge.MIN, Edge.MAX}) {
            EDGE.is("moves(" + bad + ", 0)", x.moves(bad, 0), -1);
        }
        for (int bad : Edge.NO_PLACES) {
            EDGE.is("moves(1, " + bad + ")", x.moves(1, bad), -1);
        }
        EDGE.is("place of 1", x.village(1, 2), 11);
    }

    private static void fetches() {
        EDGE.of(6, "FETCHING from another one: from whom it did.");
        ChairOnTheRoad x = Due.told("v00005;v00001;");
        EDGE.is("fetches(0, 1)", x.fetches(0, 1), 5);
        EDGE.is("fetches(0, 0), itself", x.fetches(0, 0), 1);
        EDGE.is("fetches(0, 6), not there", x.fetches(0, 6), 0);
        EDGE.is("fetches(0, 6) again", x.fetches(0, 6), 6);
        EDGE.is("of the other", x.village(1, 3), 1);
    }

    private static void fetchesRefused() {
        EDGE.of(6, "-1 (0 .. 6).");
        ChairOnTheRoad x = Due.told("v00003;v00001;");
        for (int bad : new int[] {-1, 7, Edge.MIN, Edge.MAX}) {
            EDGE.is("fetches(0, " + bad + ")", x.fetches(0, bad), -1);
        }
        for (int bad : new int[] {-1, 2, 6, 7, Edge.MIN, Edge.MAX}) {
            EDGE.is("fetches(" + bad + ", 0)", x.fetches(bad, 0), -1);
        }
        EDGE.is("as it was", x.village(0, 3), 3);
        for (int from = 0; from <= 6; from++) {
            EDGE.is("fetches(1, " + from + ")", x.fetches(1, from), from == 0 ? 1 : from - 1);
        }
    }

    private static void stocks() {
        EDGE.of(7, "STOCK becomes s: the old one.");
        ChairOnTheRoad x = Due.told("v00000;v00000;");
        EDGE.is("stocks(1, 0)", x.stocks(1, 0), 10);
        EDGE.is("stocks(1, 99)", x.stocks(1, 99), 0);
        EDGE.is("stocks(1, 99) again", x.stocks(1, 99), 99);
        EDGE.is("all stock", x.count(4), 109);
    }

    private static void stocksRefused() {
        EDGE.of(7, "-1 (0 .. 99).");
        ChairOnTheRoad x = Due.told("v00000;v00000;");
        for (int bad : new int[] {-1, 100, Edge.MIN, Edge.MAX}) {
            EDGE.is("stocks(0, " + bad + ")", x.stocks(0, bad), -1);
        }
        for (int bad : new int[] {-1, 2, 7, Edge.MIN, Edge.MAX}) {
            EDGE.is("stocks(" + bad + ", 5)", x.stocks(bad, 5), -1);
        }
        EDGE.is("all stock", x.count(4), 20);
    }

    private static void sits() {
        EDGE.of(8, "THE CHAIR is AT a PLACE: the old one.");
        ChairOnTheRoad x = new ChairOnTheRoad();
        EDGE.is("sits(11)", x.sits(11), 0);
        EDGE.is("sits(11) again", x.sits(11), 11);
        EDGE.is("sits(0)", x.sits(0), 11);
        EDGE.is("count(2)", x.count(2), 0);
    }

    private static void sitsRefused() {
        EDGE.of(8, "the old one. -1.");
        ChairOnTheRoad x = Due.told("c04;");
        for (int bad : Edge.NO_PLACES) {
            EDGE.is("sits(" + bad + ")", x.sits(bad), -1);
        }
        EDGE.is("count(2)", x.count(2), 4);
    }

    private static void sun() {
        EDGE.of(9, "STEP (0 .. 5), HOME become others: 100 the old STEP and the old HOME.");
        ChairOnTheRoad x = new ChairOnTheRoad();
        EDGE.is("sun(0, 0)", x.sun(0, 0), 106);
        EDGE.is("sun(0, 11)", x.sun(0, 11), 0);
        EDGE.is("sun(5, 0)", x.sun(5, 0), 11);
        EDGE.is("sun(5, 11)", x.sun(5, 11), 500);
        EDGE.is("sun(5, 11) again", x.sun(5, 11), 511);
    }

    private static void sunRefused() {
        EDGE.of(9, "the old HOME. -1.");
        ChairOnTheRoad x = Due.told("s304;");
        for (int bad : new int[] {-1, 6, Edge.MIN, Edge.MAX}) {
            EDGE.is("sun(" + bad + ", 0)", x.sun(bad, 0), -1);
        }
        for (int bad : Edge.NO_PLACES) {
            EDGE.is("sun(0, " + bad + ")", x.sun(0, bad), -1);
        }
        EDGE.is("neither of the two", x.sun(0, 0), 304);
    }

    private static void days() {
        EDGE.of(10, "n DAYS (1 .. 60): all STOCK.");
        ChairOnTheRoad x = Due.told("v10000;v30001;k099;");
        EDGE.is("days(1)", x.days(1), 108);
        EDGE.is("day", x.count(1), 1);
        EDGE.is("days(60)", x.days(60), 48);
        EDGE.is("day", x.count(1), 61);
        EDGE.is("days(60) again", x.days(60), 10);
        EDGE.is("of no villages", new ChairOnTheRoad().days(1), 0);
    }

    private static void daysRefused() {
        EDGE.of(10, "all STOCK. -1, -3 DAY above 999.");
        ChairOnTheRoad x = Due.told("v00000;");
        for (int bad : new int[] {0, -1, 61, Edge.MIN, Edge.MAX}) {
            EDGE.is("days(" + bad + ")", x.days(bad), -1);
        }
        EDGE.is("day", x.count(1), 0);
        EDGE.is("stock", x.village(0, 4), 10);
    }

    private static void daysAbove999() {
        EDGE.of(10, "days() is refused (-3; in THE TEXT kind 2), if DAY and n together are above 999; none of them goes then.");
        ChairOnTheRoad x = Due.told("v30000;" + "d60;".repeat(15) + "d40;");
        EDGE.is("day", x.count(1), 940);
        String before = Due.all(x);
        EDGE.is("940 and 60", x.days(60), -3);
        EDGE.isTrue("none of them went", before.equals(Due.all(x)));
        EDGE.is("940 and 59", x.days(59), 10);
        EDGE.is("day", x.count(1), 999);
        before = Due.all(x);
        EDGE.is("999 and 1", x.days(1), -3);
        EDGE.is("999 and 60", x.days(60), -3);
        EDGE.isTrue("none of them went", before.equals(Due.all(x)));
    }

    private static void daysRefusalsInOrder() {
        EDGE.of(10, "Answers of several REFUSALS are the first one as they are told at the call.");
        ChairOnTheRoad x = Due.told("d60;".repeat(16) + "d39;");
        EDGE.is("61 days above 999", x.days(61), -1);
        EDGE.is("more days than an int can tell", x.days(Edge.MAX), -1);
        EDGE.is("no days at 999", x.days(0), -1);
    }

    private static void nothingChanges() {
        EDGE.of(10, "REFUSALS (answers; nothing changes)");
        ChairOnTheRoad x = Due.told("v12034;v79110;v00000;v00000;v00000;v00000;v00000;c05;s304;k177;"
            + "d60;".repeat(7));
        for (int i = 0; i < 9; i++) {
            x.days(60);
        }
        x.keep(7, 0, 0, 0);
        x.keep(0, 1, 4, 4);
        x.row(1, 1, 3);
        String province = Due.all(x);
        String shelves = Edge.shelves(x);
        int[] refused = {x.province(0), x.province(1), x.province(2), x.province(9), x.village(7, 0), x.village(0, 8),
            x.comes(0, 0), x.comes(1, 0), x.comes(2, 0), x.comes(0, 12), x.moves(0, 12), x.moves(7, 0), x.fetches(0, 7),
            x.fetches(7, 0), x.stocks(0, 100), x.stocks(7, 0), x.sits(12), x.sun(6, 0), x.sun(0, 12), x.days(0), x.days(61),
            x.days(60), x.days(40)};
        int[] due = {-12, -12, -11, -1, -1, -1, -2, -12, -11, -1, -1, -1, -1, -1, -1, -1, -1, -1, -1, -1, -1, -3, -3};
        for (int i = 0; i < due.length; i++) {
            EDGE.is("refusal " + i, refused[i], due[i]);
        }
        EDGE.isTrue("the province is as it was", province.equals(Due.all(x)));
        EDGE.isTrue("the shelves are as they were", shelves.equals(Edge.shelves(x)));
    }
}
