/** The boundary cases of THE TEXT (promise 2). */
public final class EdgeTextTest {
    private static final Edge EDGE = new Edge();
    private static final String[] STATEMENTS = {"v00000;", "c00;", "s000;", "k000;", "f00;", "d01;"};

    public static void main(String[] args) {
        oneAtLeast();
        semicolonBehindEach();
        village();
        chair();
        sun();
        stock();
        fetching();
        days();
        firstByte();
        firstByteBehindOthers();
        theEnd();
        formAheadOfSense();
        letterOfTheStatement();
        numberOutOfRange();
        noSuchVillage();
        noRoom();
        dayAbove999();
        lessThePlaceOfForm();
        lessThePlaceOfSense();
        allOfItComes();
        justAsManyDigits();
        oneBehindTheOther();
        firstThatCannot();
        theRowStays();
        howManyStatements();
        shelves();
        nothingHeld();
        noRowOfBytes();
        EDGE.end(2, 2);
    }

    /** Tells each text to a new object with one village. */
    private static void told(long due, String... texts) {
        for (String text : texts) {
            ChairOnTheRoad x = Due.told("v00000;");
            String before = Due.all(x);
            EDGE.is("text " + text, Due.text(x, 0, text), due);
            EDGE.isTrue("with a fault nothing comes: " + text, due > 0 || before.equals(Due.all(x)));
        }
    }

    private static void oneAtLeast() {
        EDGE.of(2, "STATEMENTS, each with \";\" behind, one at least");
        told(-1000, "", ";");
        told(1, STATEMENTS);
    }

    private static void semicolonBehindEach() {
        EDGE.of(2, "each with \";\" behind");
        for (String one : STATEMENTS) {
            int end = one.length() - 1;
            told(-1000 - end, one.substring(0, end), one.substring(0, end) + "c00;", one.substring(0, end) + ":");
            told(-1001 - end, one + ";", one + " ");
            told(2, one + one);
        }
    }

    private static void village() {
        EDGE.of(2, "\"v\" KIND, FIGURE (a digit each), PLACE (2 digits), FETCHING (a digit): a VILLAGE more");
        told(1, "v00000;", "v70000;", "v09000;", "v00090;", "v00110;", "v00006;", "v79116;");
        told(-2000, "v80000;", "v90000;", "v00120;", "v00200;", "v00990;", "v00007;", "v00009;");
        ChairOnTheRoad x = Due.told("v79116;");
        int[] due = {7, 9, 11, 6, 10};
        for (int what = 0; what < 5; what++) {
            EDGE.is("village(0, " + what + ")", x.village(0, what), due[what]);
        }
    }

    private static void chair() {
        EDGE.of(2, "\"c\" a PLACE (2 digits): THE CHAIR is there");
        told(1, "c00;", "c09;", "c10;", "c11;");
        told(-2000, "c12;", "c20;", "c99;");
        EDGE.is("the chair", Due.told("c11;").count(2), 11);
    }

    private static void sun() {
        EDGE.of(2, "\"s\" STEP (a digit), HOME (2 digits)");
        told(1, "s000;", "s500;", "s011;", "s511;");
        told(-2000, "s600;", "s900;", "s012;", "s099;", "s612;");
        EDGE.is("step and home", Due.told("s511;").sun(0, 0), 511);
    }

    private static void stock() {
        EDGE.of(2, "\"k\" a VILLAGE (a digit), STOCK (2 digits)");
        told(1, "k000;", "k099;");
        told(-2000, "k100;", "k900;");
        EDGE.is("the greatest stock", Due.told("v00000;k099;").village(0, 4), 99);
        EDGE.is("the least stock", Due.told("v00000;k000;").village(0, 4), 0);
    }

    private static void fetching() {
        EDGE.of(2, "\"f\" a VILLAGE, FETCHING (a digit each)");
        told(1, "f00;", "f01;", "f06;");
        told(-2000, "f07;", "f09;", "f10;", "f60;", "f90;");
        EDGE.is("the greatest number", Due.told("v00000;f06;").village(0, 3), 6);
        EDGE.is("itself", Due.told("v00006;f00;").village(0, 3), 0);
    }

    private static void days() {
        EDGE.of(2, "\"d\" DAYS (2 digits, 1 .. 60)");
        told(1, "d01;", "d60;");
        told(-2000, "d00;", "d61;", "d99;");
        EDGE.is("the most days", Due.told("d60;").count(1), 60);
        EDGE.is("the fewest days", Due.told("d01;").count(1), 1);
    }

    private static void firstByte() {
        EDGE.of(2, "FAULT: kind 1 the place of the first byte with which no PROVINCE can go on");
        String letters = "vcskfd";
        for (int sign = -128; sign < 128; sign++) {
            ChairOnTheRoad x = new ChairOnTheRoad();
            Due.row(x, 0, 0, sign, '0', '0', ';');
            boolean letter = sign > 0 && letters.indexOf(sign) >= 0;
            int due = !letter ? -1000 : sign == 'c' ? 1 : sign == 'f' || sign == 'd' ? -2000 : -1003;
            EDGE.is("a statement of byte " + sign, x.province(0), due);
            boolean digit = sign >= '0' && sign <= '9';
            Due.row(x, 0, 0, 'c', sign, '0', ';');
            EDGE.is("byte " + sign + " for a digit", x.province(0), !digit ? -1001 : sign <= '1' ? 1 : -2000);
            Due.row(x, 0, 0, 'c', '0', sign, ';');
            EDGE.is("byte " + sign + " for the last digit", x.province(0), digit ? 1 : -1002);
            Due.row(x, 0, 0, 'c', '0', '0', sign);
            EDGE.is("byte " + sign + " behind the digits", x.province(0), sign == ';' ? 1 : -1003);
        }
    }

    private static void firstByteBehindOthers() {
        EDGE.of(2, "the first byte with which no PROVINCE can go on");
        for (String one : STATEMENTS) {
            for (int i = 0; i < one.length(); i++) {
                told(-1007 - i, "v00000;" + one.substring(0, i) + "x" + one.substring(i + 1) + "x");
            }
        }
        told(-1004, "c00;V00000;", "c00;C00;", "c00; c00;");
    }

    private static void theEnd() {
        EDGE.of(2, "(the end, if something lacks)");
        for (String one : STATEMENTS) {
            for (int n = 1; n < one.length(); n++) {
                told(-1000 - n, one.substring(0, n));
                told(-1004 - n, "c01;" + one.substring(0, n));
            }
        }
        // The end of the longest row, behind a letter, a digit, and all but the last ";".
        told(-1100, "c00;".repeat(23) + "v00000;c", "c00;".repeat(24) + "v000", "c00;".repeat(24) + "k000");
    }

    private static void formAheadOfSense() {
        EDGE.of(2, "else kind 2 the place of the letter of the first STATEMENT that is not as it must be");
        told(-1007, "c12;c00", "c12;c00:");
        told(-1004, "d00;x");
        told(-2000, "c12;c00;");
    }

    private static void letterOfTheStatement() {
        EDGE.of(2, "kind 2 the place of the letter of the first STATEMENT");
        told(-2004, "c00;c12;", "c00;c12;c12;");
        told(-2007, "v00000;d61;c00;");
        told(-2019, "v00000;v00000;s000;v00120;", "v00000;v00000;s000;s600;d00;");
        told(-2096, "c00;".repeat(24) + "c12;");
    }

    private static void numberOutOfRange() {
        EDGE.of(2, "(a number out of range, no such VILLAGE, DAY above 999, no room)");
        told(-2000, "v80000;", "v00120;", "v00007;", "c12;", "s600;", "s012;", "f07;", "d00;", "d61;");
    }

    private static void noSuchVillage() {
        EDGE.of(2, "no such VILLAGE");
        told(-2000, "k110;", "f10;");
        told(2, "v00000;k110;", "v00000;f10;");
        told(-2007, "v00000;k210;", "v00000;f20;");
        EDGE.is("of none", Due.text(new ChairOnTheRoad(), 0, "k010;"), -2000);
        EDGE.is("of none", Due.text(new ChairOnTheRoad(), 0, "f00;"), -2000);
    }

    private static void noRoom() {
        EDGE.of(2, "no room");
        ChairOnTheRoad x = new ChairOnTheRoad();
        EDGE.is("eight", Due.text(x, 0, "v00000;".repeat(8)), -2049);
        EDGE.is("none of them", x.count(0), 0);
        EDGE.is("seven", Due.text(x, 0, "v00000;".repeat(7)), 7);
        EDGE.is("one more", Due.text(x, 0, "c05;v00000;"), -2004);
        EDGE.is("nothing came", x.count(2), 0);
        EDGE.is("still seven", x.count(0), 7);
        EDGE.is("others go on", Due.text(x, 0, "k699;f66;"), 2);
    }

    private static void dayAbove999() {
        EDGE.of(2, "(-3; in THE TEXT kind 2), if DAY and n together are above 999; none of them goes then");
        ChairOnTheRoad x = Due.told("d60;".repeat(16));
        EDGE.is("960 and 40", Due.text(x, 0, "d40;"), -2000);
        EDGE.is("960, 20 and 20", Due.text(x, 0, "d20;c01;d20;"), -2008);
        EDGE.is("none of them went", x.count(1), 960);
        EDGE.is("960, 20 and 19", Due.text(x, 0, "d20;c01;d19;"), 3);
        EDGE.is("day", x.count(1), 999);
        EDGE.is("one more", Due.text(x, 0, "d01;"), -2000);
    }

    private static void lessThePlaceOfForm() {
        EDGE.of(2, "-1000 less the place");
        for (int n = 0; n <= 24; n++) {
            told(-1000 - 4 * n, "c00;".repeat(n) + "x");
        }
    }

    private static void lessThePlaceOfSense() {
        EDGE.of(2, "-2000 less the place");
        for (int n = 0; n <= 24; n++) {
            told(-2000 - 4 * n, "c00;".repeat(n) + "c12;");
        }
    }

    private static void allOfItComes() {
        EDGE.of(2, "Without FAULT all of it comes, with one nothing.");
        String all = "v12034;c11;s511;k099;f06;d03;";
        ChairOnTheRoad x = new ChairOnTheRoad();
        String before = Due.all(x);
        EDGE.is("a fault of form at the end", Due.text(x, 0, all + "x"), -1029);
        EDGE.isTrue("nothing came", before.equals(Due.all(x)));
        EDGE.is("a fault of sense at the end", Due.text(x, 0, all + "c12;"), -2029);
        EDGE.isTrue("nothing came", before.equals(Due.all(x)));
        EDGE.is("no fault", Due.text(x, 0, all), 6);
        // A baker of figure 2 that fetches from nobody eats 1 a day; the chair goes by fives.
        int[] village = {1, 2, 3, 6, 96};
        for (int what = 0; what < village.length; what++) {
            EDGE.is("village(0, " + what + ")", x.village(0, what), village[what]);
        }
        int[] count = {1, 3, 2, 0, 96, 5, 11};
        for (int what = 0; what < count.length; what++) {
            EDGE.is("count(" + what + ")", x.count(what), count[what]);
        }
    }

    private static void justAsManyDigits() {
        EDGE.of(2, "numbers in THE TEXT have just as many digits as told");
        for (String one : STATEMENTS) {
            int end = one.length() - 1;
            told(-1000 - (end - 1), one.substring(0, end - 1) + ";");
            told(-1000 - end, one.substring(0, end) + "0;");
        }
        told(-1002, "c1;");
        told(-1003, "c001;", "d001;", "f000;", "s01;", "k00;");
    }

    private static void oneBehindTheOther() {
        EDGE.of(2, "STATEMENTS are tried one behind the other, each on what those ahead of it made");
        ChairOnTheRoad x = new ChairOnTheRoad();
        EDGE.is("stock of one that comes behind", Due.text(x, 0, "k055;v00000;"), -2000);
        EDGE.is("stock of one that came ahead", Due.text(x, 0, "v00000;k055;d01;k044;"), 4);
        EDGE.is("the last one stands", x.village(0, 4), 44);
        EDGE.is("days of the sun told ahead", Due.text(x, 0, "c00;s200;d01;s300;d01;"), 5);
        EDGE.is("the chair", x.count(2), 5);
        EDGE.is("a chair told behind the days", Due.text(x, 0, "d01;c07;"), 2);
        EDGE.is("is there", x.count(2), 7);
    }

    private static void firstThatCannot() {
        EDGE.of(2, "the first that can't be done so is told (kind 2)");
        told(-2000, "f10;v00000;c12;");
        told(-2007, "v00000;f20;c12;");
        told(-2011, "v00000;f10;c12;k200;");
    }

    private static void theRowStays() {
        EDGE.of(2, "The ROW of a text, and what is taken from a SHELF, stay there");
        ChairOnTheRoad x = new ChairOnTheRoad();
        for (String text : new String[] {"c05;d01;", "c05;c12;", "c05;c1;"}) {
            Due.text(x, 0, text);
            for (int i = 0; i < text.length(); i++) {
                EDGE.is("byte " + i + " of " + text, x.element(0, i), text.charAt(i));
            }
        }
        Due.text(x, 0, "d01;");
        EDGE.is("told again", x.province(0), 1);
        EDGE.is("day", x.count(1), 3);
    }

    private static void howManyStatements() {
        EDGE.of(2, "The text in SHELF d: how many STATEMENTS; the FAULT.");
        told(1, "c00;");
        told(2, "c00;c00;");
        told(25, "c00;".repeat(25));
        EDGE.is("fourteen villages' bytes", Due.text(new ChairOnTheRoad(), 0, "v00000;".repeat(7) + "k000;".repeat(7)), 14);
    }

    private static void shelves() {
        EDGE.of(2, "-1, -11, -12 (no ROW of bytes).");
        ChairOnTheRoad x = new ChairOnTheRoad();
        for (int d : Edge.NO_SHELVES) {
            EDGE.is("province(" + d + ")", x.province(d), -1);
        }
        for (int d = 0; d < 8; d++) {
            EDGE.is("province(" + d + ") of nothing", x.province(d), -11);
            EDGE.is("by shelf " + d, Due.text(x, d, "c0" + d + ";"), 1);
            EDGE.is("chair", x.count(2), d);
        }
    }

    private static void nothingHeld() {
        EDGE.of(2, "-11 nothing is held where something is wanted");
        ChairOnTheRoad x = Due.told("c01;");
        x.keep(7, 0, 0, 0);
        EDGE.is("the text's shelf holds nothing now", x.province(7), -11);
        EDGE.is("the chair", x.count(2), 1);
    }

    private static void noRowOfBytes() {
        EDGE.of(2, "(no ROW of bytes)");
        ChairOnTheRoad x = new ChairOnTheRoad();
        for (int kind = 0; kind < 8; kind++) {
            x.keep(0, 1, kind, 3);
            EDGE.is("of kind " + kind, x.province(0), -12);
        }
        Due.row(x, 0, 1, 'c', '0', '1', ';');
        EDGE.is("shorts", x.province(0), -12);
        Due.row(x, 0, 2, 'c', '0', '1', ';');
        EDGE.is("ints", x.province(0), -12);
        x.row(0, 1, 0);
        EDGE.is("shorts, none", x.province(0), -12);
        EDGE.is("the chair", x.count(2), 0);
        Due.row(x, 0, 0, 'c' + 256, '0' - 256, '1', ';' + 65536);
        EDGE.is("bytes keep the lowest bits", x.province(0), 1);
        EDGE.is("the chair", x.count(2), 1);
    }
}
