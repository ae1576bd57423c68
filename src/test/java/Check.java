/** Counts the answers that are not the ones due, and makes objects for the tests. */
final class Check {
    static final int NONE = -1, UNKNOWN = -1000000001, OUTSIDE = -1000000002, NOT = -1000000003, FULL = -1000000004;

    /** The deanery of most tests: least 5, four couples, five objectors. */
    static final String PLACE = "d5;c10 3,0,8,0,1;c20 0,0,0,0,0;c6 9,9,2,0,0;c30 0,0,0,15,0;"
            + "o0 4 3;o1 6 4;o2 8 8;o3 12 0;o0 2 31;";

    private int wrong = 0;
    private int calls = 0;

    void due(String call, int got, int want) {
        calls++;
        if (got != want) {
            wrong++;
            System.out.println(call + " answered " + got + ", due is " + want);
        }
    }

    void end() {
        System.out.println(calls + " answers looked at, " + wrong + " wrong");
        if (wrong > 0 || calls == 0) {
            System.exit(1);
        }
    }

    static void feedAll(WeddingReasons x, String text) {
        for (int i = 0; i < text.length(); i++) {
            x.feed(text.charAt(i));
        }
    }

    static WeddingReasons of(String text) {
        WeddingReasons x = new WeddingReasons();
        feedAll(x, text);
        if (x.deanery() < 0) {
            throw new IllegalStateException("a fault in " + text);
        }
        return x;
    }

    /** All that can be seen of section 2, of the text, of what is said and written; the box has six at most. */
    static String seen(WeddingReasons x) {
        StringBuilder b = new StringBuilder();
        for (int what = 0; what <= 15; what++) {
            b.append(x.told(what)).append(' ');
        }
        int couples = x.told(1);
        int objectors = x.told(2);
        for (int c = 0; c < couples; c++) {
            for (int what = 0; what <= 9; what++) {
                b.append(x.couple(c, what)).append(' ');
            }
        }
        for (int o = 0; o < objectors; o++) {
            for (int what = 0; what <= 3; what++) {
                b.append(x.objector(o, what)).append(' ');
            }
        }
        for (int i = 0; i <= 6; i++) {
            for (int what = 0; what <= 4; what++) {
                b.append(x.box(i, what)).append(' ');
            }
        }
        b.append(x.weights(0)).append(' ').append(x.judge());
        return b.toString();
    }

    void same(String call, String got, String want) {
        calls++;
        if (!got.equals(want)) {
            wrong++;
            System.out.println(call + ": " + got + ", due is " + want);
        }
    }
}
