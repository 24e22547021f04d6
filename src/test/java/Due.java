/** What the tests share: answers that are due, and rows put on shelves. */
final class Due {
    private int calls;
    private int wrong;

    void is(String call, long got, long want) {
        calls++;
        if (got != want) {
            wrong++;
            System.out.println(call + " answered " + got + ", due is " + want);
        }
    }

    void end() {
        System.out.println(calls + " answers looked at, " + wrong + " not as due");
        if (wrong != 0 || calls == 0) {
            System.exit(1);
        }
    }

    /** A new object of whose province shelf 7 told it the text. */
    static ChairOnTheRoad told(String text) {
        ChairOnTheRoad x = new ChairOnTheRoad();
        if (text(x, 7, text) < 1) {
            throw new IllegalArgumentException("the test's own text is at fault: " + text);
        }
        return x;
    }

    static int text(ChairOnTheRoad x, int d, String text) {
        x.row(d, 0, text.length());
        for (int i = 0; i < text.length(); i++) {
            x.put(d, i, text.charAt(i));
        }
        return x.province(d);
    }

    static void row(ChairOnTheRoad x, int d, int sort, int... values) {
        x.row(d, sort, values.length);
        for (int i = 0; i < values.length; i++) {
            x.put(d, i, values[i]);
        }
    }

    /** All that can be read of a province, as one text: equal texts, equal provinces. */
    static String all(ChairOnTheRoad x) {
        StringBuilder all = new StringBuilder();
        for (int what = 0; what < 7; what++) {
            all.append(x.count(what)).append(' ');
        }
        for (int v = 0; v < x.count(0); v++) {
            for (int what = 0; what < 5; what++) {
                all.append(x.village(v, what)).append(' ');
            }
        }
        return all.toString();
    }
}
