import java.util.function.Consumer;

/**
 * An object made by the same calls again and again, so that all of it can be looked at, also by calls
 * that change it. No object comes to 512 calls.
 */
final class Situation {
    static final String SIX_TEXT = "d1;c9 0,0,0,0,0;c9 0,0,0,0,0;c9 0,0,0,0,0;c9 0,0,0,0,0;c9 0,0,0,0,0;c9 0,0,0,0,0;"
            + "o3 1 0;o3 1 0;o3 1 0;o3 1 0;o3 1 0;o3 1 0;";
    private static final String SMALL_TEXT = "d5;c10 3,0,8,0,1;o0 4 3;";

    /** No deanery. */
    static final Situation NEW = new Situation("new", 0, 0, x -> { });
    static final Situation BARE = new Situation("nobody there", 0, 0, x -> tell(x, "d1;"));
    static final Situation COUPLES_ALONE = new Situation("no objectors", 2, 0, x -> tell(x, "d1;c9 1,2,3,4,5;c8 0,0,0,0,0;"));
    static final Situation OBJECTORS_ALONE = new Situation("no couples", 0, 2, x -> tell(x, "d1;o0 9 31;o3 7 0;"));
    static final Situation PLACE = new Situation("the place", 4, 5, x -> tell(x, Check.PLACE));
    static final Situation SIX = new Situation("six and six", 6, 6, x -> tell(x, SIX_TEXT));
    /** Couple 0 is wed, 2 home, 1 wed this year by objector 3, 3 waits; something of all that can be kept. */
    static final Situation BUSY = new Situation("busy", 4, 5, Situation::beBusy);
    static final Situation LATE = new Situation("year 9001", 1, 1, x -> passYears(x, 1));
    static final Situation FULL_TEXT = new Situation("240 letters", 1, 1, x -> {
        tell(x, SMALL_TEXT);
        Check.feedAll(x, "d7;c1 2,3,4,5,6;o0 1 2" + " ".repeat(217) + ";");
    });
    static final Situation FULL_SAID = new Situation("six said", 1, 1, x -> {
        tell(x, SMALL_TEXT);
        for (int i = 0; i < 6; i++) {
            x.say(2, i % 2 == 0 ? 3 : 1, i % 2 == 0 ? 6 : 2);
        }
    });
    static final Situation FULL_BOOK = new Situation("a book of 15", 1, 1, x -> {
        tell(x, SMALL_TEXT);
        for (int i = 0; i < 15; i++) {
            x.write(0, i < 14 ? 10 : 11);
        }
    });
    static final Situation FULL_PAST = new Situation("17 deeds", 1, 1, x -> {
        tell(x, SMALL_TEXT);
        for (int i = 0; i < 17; i++) {
            x.practise(0, 50 + i);
        }
    });

    final String name;
    final int couples;
    final int objectors;
    private final Consumer<WeddingReasons> deeds;
    private String seen;
    private String whole;

    Situation(String name, int couples, int objectors, Consumer<WeddingReasons> deeds) {
        this.name = name;
        this.couples = couples;
        this.objectors = objectors;
        this.deeds = deeds;
    }

    WeddingReasons make() {
        WeddingReasons x = new WeddingReasons();
        deeds.accept(x);
        return x;
    }

    /** The same calls on an object of another's. */
    void redo(WeddingReasons x) {
        deeds.accept(x);
    }

    private static void tell(WeddingReasons x, String text) {
        Check.feedAll(x, text);
        if (x.deanery() < 0) {
            throw new IllegalStateException("a fault in " + text);
        }
    }

    private static void beBusy(WeddingReasons x) {
        tell(x, Check.PLACE);
        x.seed(5);
        x.stand(0, 0);
        x.keep(0);
        x.stand(4, 2);
        x.year(1);
        x.stand(3, 1);
        x.hear(0, 4, 6);
        x.teach(1, 0, true);
        x.sour(2, 9);
        x.practise(3, 29);
        x.say(2, 3, 6);
        x.write(3, 29);
        x.write(0, 11);
        Check.feedAll(x, "d7;c1 2,3,4,5,6;o0 1 2");
    }

    /** To the year 9000 and n more, by 60 at once. */
    static void passYears(WeddingReasons x, int n) {
        tell(x, "d1;c9 0,0,0,0,0;o3 1 0;");
        for (int i = 0; i < 150; i++) {
            x.year(60);
        }
        if (n > 0) {
            x.year(n);
        }
    }

    /** What can be seen of it without a change. */
    String seen() {
        if (seen == null) {
            seen = Check.seen(make());
        }
        return seen;
    }

    /** All that can be told apart of it. */
    String whole() {
        if (whole == null) {
            whole = behind(x -> { });
        }
        return whole;
    }

    /** All that can be told apart of it behind one more call. */
    String behind(Consumer<WeddingReasons> last) {
        StringBuilder b = new StringBuilder();
        look(last, x -> b.append(Check.seen(x)));
        look(last, x -> lookAtRest(x, b));
        look(last, x -> lookAtPast(x, b));
        look(last, x -> lookAtImages(x, b));
        look(last, x -> lookAtText(x, b));
        return b.toString();
    }

    private void look(Consumer<WeddingReasons> last, Consumer<WeddingReasons> eyes) {
        WeddingReasons x = make();
        last.accept(x);
        eyes.accept(x);
    }

    private static void lookAtRest(WeddingReasons x, StringBuilder b) {
        b.append("\nfault ").append(x.fault()).append(" weights");
        for (int what = 0; what < 3; what++) {
            b.append(' ').append(x.weights(what));
        }
        b.append(" judge ").append(x.judge());
        for (int c = 0; c < x.told(1); c++) {
            b.append(' ').append(x.practise(c, 10)).append(' ').append(x.judge());
        }
        b.append(" tear ").append(x.tear()).append(" seed ").append(x.seed(0));
    }

    private static void lookAtPast(WeddingReasons x, StringBuilder b) {
        for (int i = 0; i <= 17 && x.told(15) > 0; i++) {
            b.append("\nundo ").append(x.undo());
            brief(x, b);
        }
    }

    private static void lookAtImages(WeddingReasons x, StringBuilder b) {
        for (int i = 0; i < 2; i++) {
            b.append("\ngoBack ").append(x.goBack(i)).append(" seed ").append(x.seed(77));
            brief(x, b);
        }
    }

    private static void lookAtText(WeddingReasons x, StringBuilder b) {
        b.append("\nfeed ").append(x.feed(';')).append(" deanery ").append(x.deanery()).append(" fault ").append(x.fault());
        brief(x, b);
    }

    private static void brief(WeddingReasons x, StringBuilder b) {
        for (int what = 4; what <= 9; what++) {
            b.append(' ').append(x.told(what));
        }
        int couples = x.told(1);
        int objectors = x.told(2);
        for (int c = 0; c < couples; c++) {
            b.append(' ').append(x.couple(c, 5)).append(' ').append(x.couple(c, 4));
        }
        for (int o = 0; o < objectors; o++) {
            b.append(' ').append(x.objector(o, 1)).append(' ').append(x.objector(o, 2));
        }
    }
}
