/** Promises 29 to 31: the seed, images. */
public final class ImagesTest {
    private static final Check CHECK = new Check();

    public static void main(String[] args) {
        seed();
        keepAndGoBack();
        twoImages();
        whatImagesDoNotKeep();
        CHECK.end();
    }

    private static void seed() {
        WeddingReasons x = Check.of(Check.PLACE);
        CHECK.due("seed(-1)", x.seed(-1), Check.OUTSIDE);
        CHECK.due("seed(min)", x.seed(Integer.MIN_VALUE), Check.OUTSIDE);
        CHECK.due("seed(2147483647)", x.seed(2147483647), 0);
        CHECK.due("seed(5)", x.seed(5), 2147483647);
        CHECK.due("seed(0)", x.seed(0), 5);
        CHECK.due("told(15)", x.told(15), 0);
        x.drift(1);
        CHECK.due("drift draws thrice at least", x.seed(0) != 0 ? 1 : 0, 1);
    }

    private static void keepAndGoBack() {
        WeddingReasons x = Check.of(Check.PLACE);
        CHECK.due("keep(2)", x.keep(2), Check.UNKNOWN);
        CHECK.due("keep(-1)", x.keep(-1), Check.UNKNOWN);
        CHECK.due("goBack(2)", x.goBack(2), Check.UNKNOWN);
        CHECK.due("goBack(-1)", x.goBack(-1), Check.UNKNOWN);
        CHECK.due("goBack(0), not kept", x.goBack(0), Check.NOT);
        x.seed(5);
        x.stand(0, 0);
        x.year(2);
        x.stand(3, 1);
        x.teach(0, 4, true);
        CHECK.due("told(15)", x.told(15), 4);
        CHECK.due("keep(0)", x.keep(0), 1);
        CHECK.due("told(15)", x.told(15), 0);
        CHECK.due("undo()", x.undo(), Check.NOT);
        String was = Check.seen(x);
        x.drift(60);
        x.sour(0, 7);
        CHECK.due("told(15)", x.told(15), 2);
        CHECK.due("goBack(1), not kept", x.goBack(1), Check.NOT);
        CHECK.due("told(15) behind a refusal", x.told(15), 2);
        CHECK.due("goBack(0)", x.goBack(0), 1);
        CHECK.same("all behind goBack(0)", Check.seen(x), was);
        CHECK.due("undo()", x.undo(), Check.NOT);
        x.drift(60);
        CHECK.due("goBack(0) again", x.goBack(0), 1);
        CHECK.same("all behind goBack(0)", Check.seen(x), was);
        CHECK.due("the seed", x.seed(0), 5);
    }

    private static void twoImages() {
        WeddingReasons x = Check.of(Check.PLACE);
        x.seed(1);
        x.keep(0);
        x.year(1);
        x.seed(2);
        CHECK.due("keep(1)", x.keep(1), 1);
        x.year(1);
        CHECK.due("goBack(0)", x.goBack(0), 1);
        CHECK.due("told(4)", x.told(4), 0);
        CHECK.due("seed", x.seed(3), 1);
        CHECK.due("goBack(1)", x.goBack(1), 1);
        CHECK.due("told(4)", x.told(4), 1);
        CHECK.due("seed", x.seed(4), 2);
        x.year(9);
        x.keep(0);
        x.goBack(1);
        CHECK.due("told(4)", x.told(4), 1);
        CHECK.due("goBack(0), the newer", x.goBack(0), 1);
        CHECK.due("told(4)", x.told(4), 10);
        CHECK.due("seed", x.seed(5), 4);
    }

    private static void whatImagesDoNotKeep() {
        WeddingReasons x = Check.of(Check.PLACE);
        x.keep(0);
        x.say(0, 0, 5);
        x.write(0, 10);
        x.feed('d');
        x.goBack(0);
        CHECK.due("told(13)", x.told(13), 1);
        CHECK.due("told(14)", x.told(14), 1);
        CHECK.due("told(3)", x.told(3), 1);
    }
}
