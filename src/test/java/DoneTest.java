/** Promises 10 to 17: what is done. */
public final class DoneTest {
    private static final Check CHECK = new Check();

    public static void main(String[] args) {
        stand();
        boxOfSix();
        year();
        yearsEnd();
        teach();
        hear();
        practise();
        sour();
        drift();
        driftWithoutAnybody();
        undo();
        undoEachKind();
        refusalsChangeNothing();
        CHECK.end();
    }

    private static void stand() {
        WeddingReasons x = Check.of("d5;c10 5,0,0,0,0;c10 5,0,0,0,0;c10 0,0,0,0,0;c9 0,0,0,0,0;o0 5 1;o0 6 1;o3 4 0;o3 5 0;o3 5 0;");
        CHECK.due("stand(-1, 0)", x.stand(-1, 0), Check.UNKNOWN);
        CHECK.due("stand(5, 0)", x.stand(5, 0), Check.UNKNOWN);
        CHECK.due("stand(0, -1)", x.stand(0, -1), Check.UNKNOWN);
        CHECK.due("stand(0, 4)", x.stand(0, 4), Check.UNKNOWN);
        CHECK.due("stand(2, 0), less than least", x.stand(2, 0), Check.NOT);
        CHECK.due("stand(0, 0), answer like strength", x.stand(0, 0), 1);
        CHECK.due("stand(0, 1), twice a year", x.stand(0, 1), Check.NOT);
        CHECK.due("stand(1, 0), wed", x.stand(1, 0), Check.NOT);
        CHECK.due("stand(1, 1), one more than answer", x.stand(1, 1), 0);
        CHECK.due("stand(3, 1), home", x.stand(3, 1), Check.NOT);
        CHECK.due("stand(3, 2), strength like least", x.stand(3, 2), 1);
        CHECK.due("told(6)", x.told(6), 5);
        CHECK.due("told(7)", x.told(7), 2);
        CHECK.due("told(8)", x.told(8), 11);
        CHECK.due("told(9)", x.told(9), 3);
        CHECK.due("told(15)", x.told(15), 3);
        CHECK.due("couple(0, 7)", x.couple(0, 7), 10);
        CHECK.due("couple(2, 7)", x.couple(2, 7), 5);
        x.year(1);
        CHECK.due("stand(0, 3) a year on", x.stand(0, 3), 1);
        WeddingReasons y = Check.of("d5;c10 0,0,0,0,0;o0 4 0;");
        CHECK.due("stand(0, 0), an uncle of 4", y.stand(0, 0), Check.NOT);
        y.year(1);
        CHECK.due("stand(0, 0), an uncle of 5", y.stand(0, 0), 1);
    }

    /** Six is the most the box can come to: no couple waits again, but by what puts the box back too. */
    private static void boxOfSix() {
        WeddingReasons x = Check.of("d1;c9 0,0,0,0,0;c9 0,0,0,0,0;c9 0,0,0,0,0;c9 0,0,0,0,0;c9 0,0,0,0,0;c9 0,0,0,0,0;"
                + "o3 1 0;o3 2 0;o3 3 0;o3 4 0;o3 5 0;o3 6 0;");
        for (int i = 0; i < 6; i++) {
            CHECK.due("stand", x.stand(i, 5 - i), 1);
        }
        CHECK.due("told(9)", x.told(9), 6);
        for (int i = 0; i < 6; i++) {
            CHECK.due("box(" + i + ", 4)", x.box(i, 4), 6 - i);
            CHECK.due("box(" + i + ", 1)", x.box(i, 1), i);
            CHECK.due("box(" + i + ", 2)", x.box(i, 2), 5 - i);
        }
        CHECK.due("box(6, 4)", x.box(6, 4), Check.NONE);
        CHECK.due("box(20, 4)", x.box(20, 4), Check.NONE);
    }

    private static void year() {
        WeddingReasons x = Check.of("d1;c9 0,0,0,0,0;c58 0,0,0,0,0;c9 0,0,0,0,0;c0 1,0,0,0,0;o0 3 0;o1 3 0;o2 3 0;o3 3 0;o0 20 0;");
        CHECK.due("year(0)", x.year(0), Check.OUTSIDE);
        CHECK.due("year(61)", x.year(61), Check.OUTSIDE);
        CHECK.due("year(-1)", x.year(-1), Check.OUTSIDE);
        CHECK.due("stand(3, 2)", x.stand(3, 2), 1);
        CHECK.due("stand(4, 3)", x.stand(4, 3), 0);
        CHECK.due("year(1)", x.year(1), 1);
        CHECK.due("couple(0, 5)", x.couple(0, 5), 10);
        CHECK.due("couple(2, 5), wed", x.couple(2, 5), 9);
        CHECK.due("couple(3, 5), home", x.couple(3, 5), 0);
        CHECK.due("objector(0, 1), an uncle", x.objector(0, 1), 4);
        CHECK.due("objector(1, 1), a mother", x.objector(1, 1), 3);
        CHECK.due("objector(2, 1), a rival", x.objector(2, 1), 3);
        CHECK.due("objector(3, 1), a stranger", x.objector(3, 1), 3);
        CHECK.due("told(8)", x.told(8), 0);
        CHECK.due("year(40)", x.year(40), 41);
        CHECK.due("couple(1, 5)", x.couple(1, 5), 99);
        CHECK.due("objector(4, 1)", x.objector(4, 1), 40);
        CHECK.due("objector(0, 1)", x.objector(0, 1), 40);
        CHECK.due("year(60)", x.year(60), 101);
        CHECK.due("couple(0, 5)", x.couple(0, 5), 99);
        CHECK.due("couple(1, 5)", x.couple(1, 5), 99);
        CHECK.due("objector(4, 1)", x.objector(4, 1), 40);
        CHECK.due("told(15): a call is one", x.told(15), 5);
        CHECK.due("year(61) without a deanery", new WeddingReasons().year(61), Check.OUTSIDE);
        CHECK.due("year(1) without a deanery", new WeddingReasons().year(1), Check.NOT);
        CHECK.due("year(1), nobody there", Check.of("d1;").year(1), 1);
    }

    private static void yearsEnd() {
        WeddingReasons x = Check.of("d1;");
        for (int i = 1; i <= 150; i++) {
            CHECK.due("year(60)", x.year(60), i * 60);
        }
        CHECK.due("year(1) at 9000", x.year(1), 9001);
        CHECK.due("year(1) above 9000", x.year(1), Check.FULL);
        CHECK.due("drift(1) above 9000", x.drift(1), Check.FULL);
        CHECK.due("drift(61) above 9000", x.drift(61), Check.OUTSIDE);
        CHECK.due("year(0) above 9000", x.year(0), Check.OUTSIDE);
        x.undo();
        CHECK.due("drift(60) at 9000", x.drift(60), 9060);
        CHECK.due("told(4)", x.told(4), 9060);
        CHECK.due("drift(1) at 9060", x.drift(1), Check.FULL);
    }

    private static void teach() {
        WeddingReasons x = Check.of("d1;c9 5,6,7,8,9;o0 1 5;o3 1 0;");
        CHECK.due("teach(2, 0, true)", x.teach(2, 0, true), Check.UNKNOWN);
        CHECK.due("teach(-1, 9, true)", x.teach(-1, 9, true), Check.UNKNOWN);
        CHECK.due("teach(0, 5, true)", x.teach(0, 5, true), Check.OUTSIDE);
        CHECK.due("teach(0, -1, false)", x.teach(0, -1, false), Check.OUTSIDE);
        CHECK.due("told(15)", x.told(15), 0);
        CHECK.due("teach(0, 1, true)", x.teach(0, 1, true), 7);
        CHECK.due("teach(0, 1, true) again", x.teach(0, 1, true), 7);
        CHECK.due("teach(0, 0, false)", x.teach(0, 0, false), 6);
        CHECK.due("teach(0, 0, false) again", x.teach(0, 0, false), 6);
        CHECK.due("teach(0, 4, true)", x.teach(0, 4, true), 22);
        CHECK.due("against(0, 0, 1)", x.against(0, 0, 1), 4);
        CHECK.due("objector(0, 2)", x.objector(0, 2), 22);
        CHECK.due("teach(1, 3, true), a stranger", x.teach(1, 3, true), 8);
        CHECK.due("against(1, 0, 1)", x.against(1, 0, 1), Check.NONE);
        CHECK.due("told(15)", x.told(15), 6);
    }

    private static void hear() {
        WeddingReasons x = Check.of("d1;c9 5,6,7,8,9;c1 0,0,0,0,0;o0 1 31;");
        CHECK.due("hear(2, 0, 1)", x.hear(2, 0, 1), Check.UNKNOWN);
        CHECK.due("hear(-1, 5, 1)", x.hear(-1, 5, 1), Check.UNKNOWN);
        CHECK.due("hear(0, 5, 1)", x.hear(0, 5, 1), Check.OUTSIDE);
        CHECK.due("hear(0, -1, 1)", x.hear(0, -1, 1), Check.OUTSIDE);
        CHECK.due("hear(0, 0, 21)", x.hear(0, 0, 21), Check.OUTSIDE);
        CHECK.due("hear(0, 0, -1)", x.hear(0, 0, -1), Check.OUTSIDE);
        CHECK.due("hear(0, 4, 0)", x.hear(0, 4, 0), 9);
        CHECK.due("hear(0, 4, 20)", x.hear(0, 4, 20), 0);
        CHECK.due("hear(0, 0, 7)", x.hear(0, 0, 7), 5);
        CHECK.due("couple(0, 4)", x.couple(0, 4), 20);
        CHECK.due("couple(0, 0)", x.couple(0, 0), 7);
        CHECK.due("couple(1, 0)", x.couple(1, 0), 0);
        x.stand(0, 0);
        CHECK.due("hear, home", x.hear(0, 4, 3), 20);
        CHECK.due("told(15)", x.told(15), 5);
    }

    private static void practise() {
        WeddingReasons x = Check.of("d1;c9 5,6,7,8,9;c1 0,0,0,0,0;o3 1 31;");
        CHECK.due("practise(2, 0)", x.practise(2, 0), Check.UNKNOWN);
        CHECK.due("practise(-1, 100)", x.practise(-1, 100), Check.UNKNOWN);
        CHECK.due("practise(0, 100)", x.practise(0, 100), Check.OUTSIDE);
        CHECK.due("practise(0, -1)", x.practise(0, -1), Check.OUTSIDE);
        CHECK.due("practise(0, 99)", x.practise(0, 99), 9);
        CHECK.due("practise(0, 0)", x.practise(0, 0), 99);
        CHECK.due("couple(0, 5)", x.couple(0, 5), 0);
        CHECK.due("stand(0, 0)", x.stand(0, 0), 0);
        CHECK.due("practise(0, 5), home", x.practise(0, 5), Check.NOT);
        CHECK.due("practise(0, 100), home", x.practise(0, 100), Check.OUTSIDE);
        x.year(1);
        CHECK.due("stand(0, 1)", x.stand(0, 1), 1);
        CHECK.due("practise(1, 5), wed", x.practise(1, 5), Check.NOT);
        CHECK.due("told(15)", x.told(15), 5);
    }

    private static void sour() {
        WeddingReasons x = Check.of("d1;o0 5 0;o1 6 0;o2 7 0;o3 8 0;");
        CHECK.due("sour(4, 0)", x.sour(4, 0), Check.UNKNOWN);
        CHECK.due("sour(-1, 41)", x.sour(-1, 41), Check.UNKNOWN);
        CHECK.due("sour(0, 41)", x.sour(0, 41), Check.OUTSIDE);
        CHECK.due("sour(0, -1)", x.sour(0, -1), Check.OUTSIDE);
        for (int o = 0; o < 4; o++) {
            CHECK.due("sour(" + o + ", 40)", x.sour(o, 40), 5 + o);
            CHECK.due("sour(" + o + ", 0)", x.sour(o, 0), 40);
            CHECK.due("objector(" + o + ", 1)", x.objector(o, 1), 0);
        }
        CHECK.due("told(15)", x.told(15), 8);
    }

    private static void drift() {
        CHECK.due("drift(0)", Check.of(Check.PLACE).drift(0), Check.OUTSIDE);
        CHECK.due("drift(61)", Check.of(Check.PLACE).drift(61), Check.OUTSIDE);
        CHECK.due("drift(61) without a deanery", new WeddingReasons().drift(61), Check.OUTSIDE);
        CHECK.due("drift(1) without a deanery", new WeddingReasons().drift(1), Check.NOT);
        for (int most = 1; most <= 15; most++) {
            driftByHand(most);
        }
    }

    /** The draws worked by hand from the seed 5; the words of the document, one by one. */
    private static void driftByHand(int most) {
        long[] seed = {5};
        int[] deeds = new int[4];
        WeddingReasons x = Check.of(Check.PLACE);
        WeddingReasons y = Check.of(Check.PLACE);
        x.seed(5);
        int years = 0;
        for (int n = 1; n <= most; n++) {
            years += n;
            CHECK.due("drift(" + n + ")", x.drift(n), years);
            for (int i = 0; i < n; i++) {
                deeds[oneByHand(y, seed)]++;
            }
        }
        String got = Check.seen(x).replaceFirst("^((\\S+ ){15})\\S+", "$1*");
        String want = Check.seen(y).replaceFirst("^((\\S+ ){15})\\S+", "$1*");
        CHECK.same("behind " + years + " years", got, want);
        CHECK.due("the seed", x.seed(0), (int) seed[0]);
        CHECK.due("told(15)", x.told(15), most);
        for (int deed = 0; deed < 4 && most == 15; deed++) {
            CHECK.due("deed " + deed + " came", deeds[deed] > 10 ? 1 : 0, 1);
        }
    }

    private static int oneByHand(WeddingReasons y, long[] seed) {
        int deed = draw(seed, 4);
        int c = draw(seed, 4);
        int o = draw(seed, 5);
        if (deed == 0) {
            y.stand(o, c);
        } else if (deed == 1) {
            int reason = draw(seed, 5);
            y.hear(c, reason, draw(seed, 21));
        } else if (deed == 2) {
            y.teach(o, draw(seed, 5), true);
        }
        y.year(1);
        return deed;
    }

    private static int draw(long[] seed, int n) {
        seed[0] = (seed[0] * 1103515245L + 12345L) % (1L << 31);
        return (int) (seed[0] / 65536 % n);
    }

    private static void driftWithoutAnybody() {
        WeddingReasons x = Check.of("d1;c3 0,0,0,0,0;");
        x.seed(2147483647);
        CHECK.due("drift(2), no objectors", x.drift(2), 2);
        CHECK.due("couple(0, 5)", x.couple(0, 5), 5);
        CHECK.due("the seed stays", x.seed(7), 2147483647);
        WeddingReasons y = Check.of("d1;o0 3 0;");
        y.seed(9);
        CHECK.due("drift(2), no couples", y.drift(2), 2);
        CHECK.due("objector(0, 1)", y.objector(0, 1), 5);
        CHECK.due("the seed stays", y.seed(7), 9);
    }

    private static void undo() {
        WeddingReasons x = Check.of(Check.PLACE);
        CHECK.due("undo() of nothing", x.undo(), Check.NOT);
        for (int i = 1; i <= 20; i++) {
            x.practise(0, i);
            CHECK.due("told(15)", x.told(15), Math.min(16, i));
        }
        for (int i = 15; i >= 0; i--) {
            CHECK.due("undo()", x.undo(), i);
            CHECK.due("couple(0, 5)", x.couple(0, 5), i + 4);
        }
        CHECK.due("undo() of what is lost", x.undo(), Check.NOT);
        CHECK.due("couple(0, 5)", x.couple(0, 5), 4);
        x.practise(0, 50);
        x.practise(0, 51);
        CHECK.due("undo()", x.undo(), 1);
        x.practise(0, 52);
        CHECK.due("undo()", x.undo(), 1);
        CHECK.due("couple(0, 5)", x.couple(0, 5), 50);
        CHECK.due("undo()", x.undo(), 0);
        CHECK.due("couple(0, 5)", x.couple(0, 5), 4);
    }

    private static void undoEachKind() {
        for (int deed = 0; deed < 7; deed++) {
            WeddingReasons x = Check.of(Check.PLACE);
            x.stand(3, 1);
            x.seed(5);
            x.say(0, 5, 8);
            x.write(0, 10);
            String was = Check.seen(x);
            CHECK.due("deed " + deed + " is not refused", doDeed(x, deed) >= 0 ? 1 : 0, 1);
            CHECK.due("told(15)", x.told(15), 2);
            CHECK.due("undo() of deed " + deed, x.undo(), 1);
            CHECK.same("all behind undo() of deed " + deed, Check.seen(x), was);
            CHECK.due("the seed stays as it became", x.seed(5) != 5 ? 1 : 0, deed == 6 ? 1 : 0);
            doDeed(x, deed);
            x.feed('d');
            x.say(0, 5, 9);
            x.write(0, 11);
            x.undo();
            CHECK.due("told(3): the text stays", x.told(3), 1);
            CHECK.due("told(13): what is said stays", x.told(13), 2);
            CHECK.due("told(14): the book stays", x.told(14), 2);
        }
    }

    private static int doDeed(WeddingReasons x, int deed) {
        return switch (deed) {
            case 0 -> x.stand(0, 0);
            case 1 -> x.year(3);
            case 2 -> x.teach(0, 4, true);
            case 3 -> x.hear(0, 0, 19);
            case 4 -> x.practise(0, 11);
            case 5 -> x.sour(0, 30);
            default -> x.drift(30);
        };
    }

    private static void refusalsChangeNothing() {
        WeddingReasons x = Check.of(Check.PLACE);
        x.stand(0, 0);
        x.seed(5);
        String was = Check.seen(x);
        x.stand(0, 2);
        x.stand(1, 0);
        x.stand(9, 0);
        x.year(0);
        x.drift(61);
        x.teach(0, 5, true);
        x.teach(6, 0, true);
        x.hear(0, 0, 21);
        x.hear(6, 0, 2);
        x.practise(0, 5);
        x.practise(1, 100);
        x.sour(0, 41);
        x.feed(256);
        x.say(3, 0, 0);
        x.write(0, 100);
        x.write(4, 1);
        x.seed(-1);
        x.keep(2);
        x.goBack(0);
        x.goBack(-1);
        CHECK.same("all behind refusals", Check.seen(x), was);
        CHECK.due("seed(0)", x.seed(0), 5);
    }
}
