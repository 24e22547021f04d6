import java.lang.reflect.Field;

/** The boundary cases of Terms I but THE TEXT: places, the chair, villages, kinds, how a DAY goes. */
public final class EdgeTermsTest {
    private static final Edge EDGE = new Edge();
    private static final int[] ODD_PLACES = {-1, 12, Edge.MIN, Edge.MAX};

    public static void main(String[] args) throws ReflectiveOperationException {
        ring();
        far();
        chairAtFirst();
        stepAtFirst();
        homeAtFirst();
        sevenVillages();
        figures();
        fetchingFromNobody();
        stockAtFirst();
        nodsAtFirst();
        nodsAtMost();
        dayAtFirst();
        lastDay();
        kinds();
        waysByKind();
        goesByKind();
        bringsByKind();
        eatsByKind();
        nodsByKind();
        canJust();
        canFromAnother();
        dayIsOneMore();
        chairOfADay();
        villagesByNumbers();
        byWhereTheChairIsThen();
        takesAllThereIs();
        whatIsMoreIsLost();
        eatsToNothing();
        oneLessThanWhatItIsUnder();
        EDGE.end();
    }

    private static void ring() {
        EDGE.of(16, "PLACES 0 .. 11 stand in a ring (behind 11 is 0)");
        ChairOnTheRoad x = Due.told("v20110;");
        EDGE.is("from 11 to 0", x.way(0, 0), 1);
        EDGE.is("from 11 to 11", x.way(0, 11), 0);
        x.moves(0, 0);
        EDGE.is("from 0 to 11", x.way(0, 11), 1);
        x.sits(11);
        EDGE.is("a step on from 11", x.then(1, 0), 0);
        for (int bad : ODD_PLACES) {
            EDGE.is("no place " + bad, x.way(0, bad), -1);
        }
    }

    private static void far() {
        EDGE.of(16, "FAR from one to another: the lesser way round");
        ChairOnTheRoad x = Due.told("v20020;v20110;");
        int[] from2 = {2, 1, 0, 1, 2, 3, 4, 5, 6, 5, 4, 3};
        int[] from11 = {1, 2, 3, 4, 5, 6, 5, 4, 3, 2, 1, 0};
        for (int place = 0; place < 12; place++) {
            EDGE.is("from 2 to " + place, x.way(0, place), from2[place]);
            EDGE.is("from 11 to " + place, x.way(1, place), from11[place]);
        }
    }

    private static void chairAtFirst() {
        EDGE.of(1, "THE CHAIR is AT a PLACE (0 at first)");
        EDGE.is("count(2)", new ChairOnTheRoad().count(2), 0);
        EDGE.is("sits(11)", new ChairOnTheRoad().sits(11), 0);
    }

    private static void stepAtFirst() {
        EDGE.of(9, "its STEP (0 .. 5; 1 at first)");
        ChairOnTheRoad x = new ChairOnTheRoad();
        EDGE.is("count(5)", x.count(5), 1);
        EDGE.is("sun(5, 6)", x.sun(5, 6), 106);
        EDGE.is("the greatest", x.count(5), 5);
        EDGE.is("sun(0, 6)", x.sun(0, 6), 506);
        EDGE.is("the least", x.count(5), 0);
        EDGE.is("sun(6, 6)", x.sun(6, 6), -1);
        EDGE.is("sun(-1, 6)", x.sun(-1, 6), -1);
    }

    private static void homeAtFirst() {
        EDGE.of(9, "HOME (a PLACE; 6 at first)");
        ChairOnTheRoad x = new ChairOnTheRoad();
        EDGE.is("count(6)", x.count(6), 6);
        EDGE.is("sun(1, 11)", x.sun(1, 11), 106);
        EDGE.is("the greatest", x.count(6), 11);
        EDGE.is("sun(1, 0)", x.sun(1, 0), 111);
        EDGE.is("the least", x.count(6), 0);
        for (int bad : ODD_PLACES) {
            EDGE.is("no place " + bad, x.sun(1, bad), -1);
        }
    }

    private static void sevenVillages() {
        EDGE.of(4, "VILLAGES 0 .. 6 as they come (7 at most)");
        ChairOnTheRoad x = new ChairOnTheRoad();
        x.keep(0, 1, 0, 0);
        for (int v = 0; v < 7; v++) {
            EDGE.is("ahead of it", x.village(v, 0), -1);
            EDGE.is("number " + v, x.comes(0, 0), v);
            EDGE.is("it is there", x.village(v, 0), 0);
        }
        EDGE.is("one more", x.comes(0, 0), -2);
        EDGE.is("as many as there were", x.count(0), 7);
        EDGE.is("no number 7", x.village(7, 0), -1);
    }

    private static void figures() {
        EDGE.of(38, "each with a FIGURE (0 .. 9)");
        ChairOnTheRoad x = new ChairOnTheRoad();
        for (int figure = 0; figure <= 9; figure++) {
            EDGE.is("keep with figure " + figure, x.keep(0, 1, 1, figure), 0);
            EDGE.is("it comes", x.comes(0, 0), figure < 7 ? figure : -2);
            EDGE.is("a baker's cost tells it", x.cost(0), 4 + figure);
        }
        EDGE.is("figure 10", x.keep(0, 1, 1, 10), -1);
        EDGE.is("figure -1", x.keep(0, 1, 1, -1), -1);
    }

    private static void fetchingFromNobody() {
        EDGE.of(6, "FETCHING from a VILLAGE (or itself, a number that may not be there yet, 0 .. 6: nobody then)");
        ChairOnTheRoad x = Due.told("v00006;v00001;");
        EDGE.is("from 6, not there: way", x.village(0, 5), -4);
        EDGE.is("from 6, not there: it can't", x.village(0, 6), 0);
        EDGE.is("from itself: way", x.village(1, 5), -4);
        EDGE.is("from itself: it can't", x.village(1, 6), 0);
        EDGE.is("from 2, not there yet", x.fetches(0, 2), 6);
        EDGE.is("way", x.village(0, 5), -4);
        x.keep(0, 1, 0, 0);
        x.comes(0, 0);
        EDGE.is("it is there now: way", x.village(0, 5), 0);
        EDGE.is("it is there now: it can", x.village(0, 6), 1);
        EDGE.is("the least number", x.fetches(1, 0), 1);
        EDGE.is("the greatest number", x.fetches(1, 6), 0);
        EDGE.is("number 7", x.fetches(1, 7), -1);
        EDGE.is("number -1", x.fetches(1, -1), -1);
        EDGE.is("as last told", x.village(1, 3), 6);
    }

    private static void stockAtFirst() {
        EDGE.of(7, "STOCK (0 .. 99; 10 at first)");
        ChairOnTheRoad x = Due.told("v00000;");
        EDGE.is("of one by a text", x.village(0, 4), 10);
        x.keep(0, 1, 3, 3);
        x.comes(0, 3);
        EDGE.is("of one from a shelf", x.village(1, 4), 10);
        EDGE.is("stocks(0, 99)", x.stocks(0, 99), 10);
        EDGE.is("stocks(0, 100)", x.stocks(0, 100), -1);
        EDGE.is("stocks(0, 0)", x.stocks(0, 0), 99);
        EDGE.is("stocks(0, -1)", x.stocks(0, -1), -1);
        EDGE.is("as last told", x.village(0, 4), 0);
    }

    private static void nodsAtFirst() {
        EDGE.of(37, "NODS (0 .. 9999; 0 at first)");
        EDGE.is("count(3)", new ChairOnTheRoad().count(3), 0);
        EDGE.is("those who came have none", Due.told("v00001;v00000;").count(3), 0);
    }

    /** No run comes near 9999 (7 NODS a DAY, 999 DAYS), so here, and only here, a field is set from outside. */
    private static void nodsAtMost() throws ReflectiveOperationException {
        EDGE.of(10, "NODS are 1 more, if it NODS (9999 at most)");
        ChairOnTheRoad x = Due.told("v00001;v00000;s000;");
        EDGE.is("two nod each day", x.then(3, 1), 6);
        Field province = ChairOnTheRoad.class.getDeclaredField("now");
        province.setAccessible(true);
        Field nods = province.get(x).getClass().getDeclaredField("nods");
        nods.setAccessible(true);
        nods.setInt(province.get(x), 9996);
        EDGE.is("a day on", x.then(1, 1), 9998);
        EDGE.is("two days on", x.then(2, 1), 9999);
        EDGE.is("60 days on", x.then(60, 1), 9999);
        x.days(2);
        EDGE.is("behind two days", x.count(3), 9999);
        x.days(1);
        EDGE.is("behind three days", x.count(3), 9999);
    }

    private static void dayAtFirst() {
        EDGE.of(37, "DAY (0 .. 999; 0 at first)");
        EDGE.is("count(1)", new ChairOnTheRoad().count(1), 0);
        EDGE.is("image()", new ChairOnTheRoad().image(), 0);
    }

    private static void lastDay() {
        EDGE.of(10, "DAY (0 .. 999; 0 at first)");
        ChairOnTheRoad x = Due.told("d60;".repeat(16) + "d38;");
        EDGE.is("to 999", x.days(1), 0);
        EDGE.is("count(1)", x.count(1), 999);
        EDGE.is("one more", x.days(1), -3);
        EDGE.is("count(1) then", x.count(1), 999);
    }

    private static void kinds() {
        EDGE.of(38, "KINDS: 0 VILLAGE; 1 BAKER under VILLAGE; 2 DOCTOR under VILLAGE; 3 HEARSE under DOCTOR; 4 BISHOP under"
            + " BAKER; 5 PEDLAR under VILLAGE; 6 ARMY under BISHOP; 7 HERMIT under DOCTOR.");
        ChairOnTheRoad x = new ChairOnTheRoad();
        for (int kind = 0; kind <= 7; kind++) {
            EDGE.is("kind " + kind, x.keep(0, 1, kind, 5), 0);
            x.comes(0, 0);
            EDGE.is("the one that came", kind < 7 ? x.village(kind, 0) : 7, kind);
        }
        EDGE.is("kind 8", x.keep(0, 1, 8, 5), -1);
        EDGE.is("kind -1", x.keep(0, 1, -1, 5), -1);
        EDGE.is("the hermit as a text tells it", Due.told("v70000;").village(0, 0), 7);
    }

    /** Ways to places 0 .. 11 of one of the kind at place 3, with the chair at 5, on day 0 and on day 1. */
    private static void ways(int kind, String sentence, int[] even, int[] odd) {
        EDGE.of(16, sentence);
        ChairOnTheRoad x = Due.told("v" + kind + "5030;c05;s000;");
        for (int place = 0; place < 12; place++) {
            EDGE.is("to " + place, x.way(0, place), even[place]);
        }
        x.days(1);
        for (int place = 0; place < 12; place++) {
            EDGE.is("on an odd day to " + place, x.way(0, place), odd[place]);
        }
        x.moves(0, 5);
        EDGE.is("on an odd day where all is", x.way(0, 5), kind == 6 ? 1 : 0);
        x.days(1);
        EDGE.is("on an even day where all is", x.way(0, 5), 0);
    }

    private static void waysByKind() {
        int[] byChair = {7, 6, 5, 4, 3, 2, 3, 4, 5, 6, 7, 8};
        int[] baker = {6, 5, 4, 3, 2, 1, 2, 3, 4, 5, 6, 7};
        int[] straight = {3, 2, 1, 0, 1, 2, 3, 4, 5, 6, 5, 4};
        int[] hearse = {8, 6, 4, 2, 2, 2, 4, 6, 8, 10, 10, 10};
        int[] bishop = {12, 10, 8, 6, 4, 2, 4, 6, 8, 10, 12, 14};
        int[] pedlar = {3, 3, 2, 2, 1, 1, 1, 2, 2, 3, 3, 4};
        int[] army = {13, 11, 9, 7, 5, 3, 5, 7, 9, 11, 13, 15};
        ways(0, "VILLAGE FAR to THE CHAIR and from it on", byChair, byChair);
        ways(1, "BAKER as a VILLAGE, 1 less (0 at least)", baker, baker);
        ways(2, "DOCTOR straight", straight, straight);
        ways(3, "HEARSE straight and FAR from THE CHAIR to that PLACE", hearse, hearse);
        ways(4, "BISHOP twice a BAKER's", bishop, bishop);
        ways(5, "PEDLAR half of a VILLAGE's, cut", pedlar, pedlar);
        ways(6, "ARMY as a BISHOP, 1 more on odd DAYS", bishop, army);
        ways(7, "HERMIT as a DOCTOR", straight, straight);
        EDGE.of(16, "WAY of one to a PLACE: VILLAGE FAR to THE CHAIR and from it on");
        ChairOnTheRoad x = Due.told("v00000;v30000;c06;");
        EDGE.is("half round and half round back", x.way(0, 0), 12);
        x.sits(0);
        EDGE.is("a hearse's longest", x.way(1, 6), 12);
    }

    private static void goes(int kind, String sentence, int... due) {
        EDGE.of(3, sentence);
        for (int figure = 0; figure <= 9; figure++) {
            EDGE.is("figure " + figure, Due.told("v" + kind + figure + "000;").village(0, 7), due[figure]);
        }
    }

    private static void goesByKind() {
        goes(0, "VILLAGE 6 plus (FIGURE over 3, cut)", 6, 6, 6, 7, 7, 7, 8, 8, 8, 9);
        goes(1, "BAKER 2 more", 8, 8, 8, 9, 9, 9, 10, 10, 10, 11);
        goes(2, "DOCTOR FIGURE", 0, 1, 2, 3, 4, 5, 6, 7, 8, 9);
        goes(3, "HEARSE half of a DOCTOR's, cut", 0, 0, 1, 1, 2, 2, 3, 3, 4, 4);
        goes(4, "BISHOP twice a BAKER's", 16, 16, 16, 18, 18, 18, 20, 20, 20, 22);
        goes(5, "PEDLAR 4", 4, 4, 4, 4, 4, 4, 4, 4, 4, 4);
        goes(6, "ARMY 1 more than a BISHOP", 17, 17, 17, 19, 19, 19, 21, 21, 21, 23);
        goes(7, "HERMIT 0", 0, 0, 0, 0, 0, 0, 0, 0, 0, 0);
    }

    /** What one of the kind takes on a day from a hearse, which eats nothing; all is at place 0. */
    private static void brings(int kind, String sentence, int... due) {
        EDGE.of(10, sentence);
        for (int figure = 0; figure <= 9; figure++) {
            ChairOnTheRoad x = Due.told("v" + kind + figure + "001;v30001;s000;k150;");
            x.days(1);
            EDGE.is("figure " + figure, 50 - x.village(1, 4), due[figure]);
        }
    }

    private static void bringsByKind() {
        brings(0, "BRINGS: VILLAGE 3", 3, 3, 3, 3, 3, 3, 3, 3, 3, 3);
        brings(1, "BAKER FIGURE", 0, 1, 2, 3, 4, 5, 6, 7, 8, 9);
        brings(2, "DOCTOR 2", 2, 2, 2, 2, 2, 2, 2, 2, 2, 2);
        brings(3, "HEARSE as a DOCTOR", 2, 2, 2, 2, 2, 2, 2, 2, 2, 2);
        brings(4, "BISHOP 1 more than a BAKER", 1, 2, 3, 4, 5, 6, 7, 8, 9, 10);
        brings(5, "PEDLAR FIGURE by 2, cut", 0, 0, 1, 1, 2, 2, 3, 3, 4, 4);
        brings(6, "ARMY 9", 9, 9, 9, 9, 9, 9, 9, 9, 9, 9);
        brings(7, "HERMIT as a DOCTOR", 2, 2, 2, 2, 2, 2, 2, 2, 2, 2);
    }

    private static void eats(int kind, String sentence, int... due) {
        EDGE.of(10, sentence);
        for (int figure = 0; figure <= 9; figure++) {
            ChairOnTheRoad x = Due.told("v" + kind + figure + "000;k050;");
            EDGE.is("figure " + figure, 50 - x.days(1), due[figure]);
        }
    }

    private static void eatsByKind() {
        eats(0, "EATS: VILLAGE 2", 2, 2, 2, 2, 2, 2, 2, 2, 2, 2);
        eats(1, "BAKER 1", 1, 1, 1, 1, 1, 1, 1, 1, 1, 1);
        eats(2, "DOCTOR 2", 2, 2, 2, 2, 2, 2, 2, 2, 2, 2);
        eats(3, "HEARSE 0", 0, 0, 0, 0, 0, 0, 0, 0, 0, 0);
        eats(4, "BISHOP FIGURE by 3, cut, more than a BAKER", 1, 1, 1, 2, 2, 2, 3, 3, 3, 4);
        eats(5, "PEDLAR 1", 1, 1, 1, 1, 1, 1, 1, 1, 1, 1);
        eats(6, "ARMY twice a BISHOP's", 2, 2, 2, 4, 4, 4, 6, 6, 6, 8);
        eats(7, "HERMIT 1 less than a DOCTOR", 1, 1, 1, 1, 1, 1, 1, 1, 1, 1);
    }

    private static void nodsByKind() {
        EDGE.of(10, "NODS to him: DOCTORS, HEARSES, HERMITS do not.");
        int[] due = {1, 1, 0, 0, 1, 1, 1, 0};
        for (int kind = 0; kind < 8; kind++) {
            ChairOnTheRoad x = Due.told("v" + kind + "0001;v30001;s000;k100;");
            x.days(1);
            EDGE.is("kind " + kind + ", though there is nothing to take", x.count(3), due[kind]);
        }
    }

    private static void canJust() {
        EDGE.of(3, "its WAY to that one's PLACE is what it GOES, or less");
        // Of each kind: its figure, where the chair is, where it just can go, and where it is 1 (of bishops 2) too far.
        int[][] of = {{0, 3, 0, 11}, {0, 5, 9, 10}, {3, 9, 3, 4}, {4, 0, 1, 2}, {0, 5, 9, 10}, {9, 5, 9, 10}, {0, 5, 9, 10},
            {9, 3, 0, 1}};
        int[][] ways = {{6, 7}, {8, 9}, {3, 4}, {2, 4}, {16, 18}, {4, 5}, {16, 18}, {0, 1}};
        for (int kind = 0; kind < 8; kind++) {
            for (int i = 0; i < 2; i++) {
                String place = String.format("%02d", of[kind][2 + i]);
                String chair = String.format("%02d", of[kind][1]);
                ChairOnTheRoad x = Due.told("v" + kind + of[kind][0] + "001;v00" + place + "1;c" + chair + ";s000;");
                EDGE.is("kind " + kind + ": its way", x.village(0, 5), ways[kind][i]);
                EDGE.is("kind " + kind + ": it can", x.village(0, 6), 1 - i);
            }
        }
        ChairOnTheRoad x = Due.told("v60001;v00091;c05;s000;d01;c05;");
        EDGE.is("an army's way on an odd day", x.village(0, 5), 17);
        EDGE.is("an army on an odd day", x.village(0, 6), 1);
    }

    private static void canFromAnother() {
        EDGE.of(3, "One CAN fetch: from another VILLAGE that is there");
        ChairOnTheRoad x = Due.told("v00001;v00001;");
        EDGE.is("from another", x.village(0, 6), 1);
        EDGE.is("from itself", x.village(1, 6), 0);
        x.fetches(1, 2);
        EDGE.is("from one that is not there", x.village(1, 6), 0);
    }

    private static void dayIsOneMore() {
        EDGE.of(10, "A DAY: DAY is 1 more");
        ChairOnTheRoad x = new ChairOnTheRoad();
        x.days(1);
        EDGE.is("behind 1", x.count(1), 1);
        x.days(60);
        EDGE.is("behind 60 more", x.count(1), 61);
        x = Due.told("v60000;s000;d11;");
        EDGE.is("an army's way on day 11", x.way(0, 0), 1);
        x.days(1);
        EDGE.is("an army's way on day 12", x.way(0, 0), 0);
    }

    private static void chairOfADay() {
        EDGE.of(10, "THE CHAIR: AT HOME, if 12 divides DAY, else STEP PLACES on");
        ChairOnTheRoad x = Due.told("s503;");
        int[] due = {5, 10, 3, 8, 1, 6, 11, 4, 9, 2, 7, 3, 8, 1, 6, 11, 4, 9, 2, 7, 0, 5, 10, 3, 8};
        for (int day = 1; day <= 25; day++) {
            EDGE.is("in mind, on day " + day, Due.told("s503;").then(day, 0), due[day - 1]);
            x.days(1);
            EDGE.is("on day " + day, x.count(2), due[day - 1]);
        }
        x = Due.told("s011;d11;");
        EDGE.is("with step 0 on day 11", x.count(2), 0);
        x.days(1);
        EDGE.is("at home on day 12", x.count(2), 11);
        x.days(1);
        EDGE.is("with step 0 from home", x.count(2), 11);
    }

    private static void villagesByNumbers() {
        EDGE.of(10, "then VILLAGES by numbers");
        ChairOnTheRoad x = Due.told("v00001;v00002;v30002;s000;k100;");
        x.days(1);
        EDGE.is("0 found nothing with 1", x.village(0, 4), 8);
        EDGE.is("1 fetched behind it", x.village(1, 4), 1);
        x = Due.told("v00001;v00000;s000;k003;k103;");
        x.days(1);
        EDGE.is("0 was fetched from when it had eaten", x.village(0, 4), 1);
        EDGE.is("1 fetched what 0 had of it", x.village(1, 4), 1);
    }

    private static void byWhereTheChairIsThen() {
        EDGE.of(10, "if it CAN (by where THE CHAIR is then)");
        ChairOnTheRoad x = Due.told("v00001;v30031;s500;");
        EDGE.is("it can now", x.village(0, 6), 1);
        x.days(1);
        EDGE.is("it could not then", x.village(0, 4), 8);
        x = Due.told("v00001;v30031;s500;c07;");
        EDGE.is("it can't now", x.village(0, 6), 0);
        x.days(1);
        EDGE.is("it could then", x.village(0, 4), 11);
    }

    private static void takesAllThereIs() {
        EDGE.of(10, "it takes what it BRINGS, or all there is, if that is less, from the STOCK of that one");
        int[] had = {0, 1, 2, 3, 4, 99};
        int[] left = {0, 0, 0, 0, 1, 96};
        int[] won = {8, 9, 10, 11, 11, 11};
        for (int i = 0; i < had.length; i++) {
            ChairOnTheRoad x = Due.told("v00001;v30001;s000;");
            x.stocks(1, had[i]);
            x.days(1);
            EDGE.is("left of " + had[i], x.village(1, 4), left[i]);
            EDGE.is("who fetched of " + had[i], x.village(0, 4), won[i]);
        }
    }

    private static void whatIsMoreIsLost() {
        EDGE.of(10, "(its own 99 at most, what is more is lost)");
        for (int had = 96; had <= 99; had++) {
            ChairOnTheRoad x = Due.told("v30001;v30001;s000;k150;");
            x.stocks(0, had);
            x.days(1);
            EDGE.is("a hearse with " + had, x.village(0, 4), Math.min(99, had + 2));
            EDGE.is("it was taken all the same", x.village(1, 4), 48);
        }
        ChairOnTheRoad x = Due.told("v19001;v30001;s000;k099;k150;");
        x.days(1);
        EDGE.is("a baker eats of the 99", x.village(0, 4), 98);
    }

    private static void eatsToNothing() {
        EDGE.of(10, "then STOCK is less by what it EATS (0 at least)");
        int[] left = {0, 0, 0, 1};
        for (int had = 0; had < 4; had++) {
            ChairOnTheRoad x = Due.told("v00000;");
            x.stocks(0, had);
            EDGE.is("of " + had + " in mind", x.stockThen(0, 1), left[had]);
            EDGE.is("of " + had, x.days(1), left[had]);
        }
        ChairOnTheRoad x = Due.told("v69000;k007;");
        EDGE.is("an army that eats 8 of 7", x.days(1), 0);
        x = Due.told("v00001;v30001;s000;k000;k101;");
        x.days(1);
        EDGE.is("it eats behind fetching", x.village(0, 4), 0);
    }

    private static void oneLessThanWhatItIsUnder() {
        EDGE.of(43, "\"n more\", \"n less\" without more words is: than what the one it is under has");
        ChairOnTheRoad x = Due.told("v19000;v10000;");
        EDGE.is("a baker goes 2 more than a village of its figure", x.village(0, 7), 11);
        EDGE.is("a baker goes 2 more than a village of its figure", x.village(1, 7), 8);
        x.keep(0, 1, 1, 9);
        EDGE.is("a baker costs its figure more than a village", x.cost(0), 13);
        x.sits(3);
        EDGE.is("a baker's way is 1 less than a village's", x.way(0, 3), 2);
    }
}
