/** Promises 1 to 9: the deanery and what is told of it. */
public final class DeaneryTest {
    private static final Check CHECK = new Check();

    public static void main(String[] args) {
        newObject();
        feed();
        goodTexts();
        faults();
        deaneryStartsAnew();
        faultChangesNothingElse();
        told();
        couple();
        weakest();
        objector();
        box();
        against();
        CHECK.end();
    }

    private static void newObject() {
        WeddingReasons x = new WeddingReasons();
        int[] want = {0, 0, 0, 0, 0, 0, 0, 0, 0, 0, 0, -1, 0, 0, 0, 0};
        for (int what = 0; what < want.length; what++) {
            CHECK.due("new: told(" + what + ")", x.told(what), want[what]);
        }
        CHECK.due("new: fault()", x.fault(), Check.NONE);
        CHECK.due("new: couple(0, 0)", x.couple(0, 0), Check.UNKNOWN);
        CHECK.due("new: objector(0, 0)", x.objector(0, 0), Check.UNKNOWN);
        CHECK.due("new: against(0, 0, 0)", x.against(0, 0, 0), Check.UNKNOWN);
        CHECK.due("new: stand(0, 0)", x.stand(0, 0), Check.UNKNOWN);
        CHECK.due("new: write(0, 0)", x.write(0, 0), Check.UNKNOWN);
        CHECK.due("new: holds(0, 0)", x.holds(0, 0), Check.UNKNOWN);
        CHECK.due("new: rounds(0, 0, 0)", x.rounds(0, 0, 0), Check.UNKNOWN);
        CHECK.due("new: soonest(0, 0)", x.soonest(0, 0), Check.UNKNOWN);
        CHECK.due("new: match(0)", x.match(0), Check.UNKNOWN);
        CHECK.due("new: seed(7)", x.seed(7), 0);
        CHECK.due("new: goBack(0)", x.goBack(0), Check.NOT);
        CHECK.due("new: keep(0)", x.keep(0), 1);
        CHECK.due("new: goBack(1)", x.goBack(1), Check.NOT);
        CHECK.due("new: goBack(0)", x.goBack(0), 1);
        CHECK.due("NONE", WeddingReasons.NONE, Check.NONE);
        CHECK.due("UNKNOWN", WeddingReasons.UNKNOWN, Check.UNKNOWN);
        CHECK.due("OUTSIDE", WeddingReasons.OUTSIDE, Check.OUTSIDE);
        CHECK.due("NOT", WeddingReasons.NOT, Check.NOT);
        CHECK.due("FULL", WeddingReasons.FULL, Check.FULL);
    }

    private static void feed() {
        WeddingReasons x = new WeddingReasons();
        CHECK.due("feed(-1)", x.feed(-1), Check.OUTSIDE);
        CHECK.due("feed(256)", x.feed(256), Check.OUTSIDE);
        CHECK.due("told(3)", x.told(3), 0);
        CHECK.due("feed(0)", x.feed(0), 1);
        CHECK.due("feed(255)", x.feed(255), 2);
        for (int i = 3; i <= 240; i++) {
            CHECK.due("feed(32)", x.feed(32), i);
        }
        CHECK.due("feed, the 241st", x.feed(32), Check.FULL);
        CHECK.due("feed(256), the 241st", x.feed(256), Check.OUTSIDE);
        CHECK.due("told(3)", x.told(3), 240);
        CHECK.due("deanery()", x.deanery(), -11);
        CHECK.due("fault()", x.fault(), 0);
        CHECK.due("feed behind deanery()", x.feed(100), 1);
    }

    private static void good(String text, int couples, int objectors) {
        WeddingReasons x = new WeddingReasons();
        Check.feedAll(x, text);
        CHECK.due("deanery() of '" + text + "'", x.deanery(), couples);
        CHECK.due("fault() of '" + text + "'", x.fault(), Check.NONE);
        CHECK.due("told(2) of '" + text + "'", x.told(2), objectors);
        CHECK.due("told(3) of '" + text + "'", x.told(3), 0);
    }

    private static void goodTexts() {
        good("", 0, 0);
        good("   ", 0, 0);
        good("d1;", 0, 0);
        good("d20;", 0, 0);
        good("  d  020  ;  ", 0, 0);
        good("d1;o3 20 31;", 0, 1);
        good("d1;o 003 020 031 ;c060 020,0,0,0,020;", 1, 1);
        good("d1 ; c 60 20 , 0 , 0 , 0 , 0 ; o 0 0 0 ;", 1, 1);
        good("d1;c0 0,0,0,0,0;c0 0,0,0,0,0;c0 0,0,0,0,0;c0 0,0,0,0,0;c0 0,0,0,0,0;c0 0,0,0,0,0;", 6, 0);
        good("d1;o0 0 0;o0 0 0;o0 0 0;o0 0 0;o0 0 0;o0 0 0;", 0, 6);
        good("d1;o0 0 0;c1 0,0,0,0,0;o1 2 3;c2 0,0,0,0,0;", 2, 2);
        StringBuilder full = new StringBuilder("d3;");
        while (full.length() < 240) {
            full.append(' ');
        }
        good(full.toString(), 0, 0);
    }

    private static void faulty(String text, int fault, int at) {
        WeddingReasons x = new WeddingReasons();
        Check.feedAll(x, text);
        CHECK.due("deanery() of '" + text + "'", x.deanery(), -10 - fault);
        CHECK.due("fault() of '" + text + "'", x.fault(), at);
        CHECK.due("told(0) of '" + text + "'", x.told(0), 0);
        CHECK.due("told(3) of '" + text + "'", x.told(3), 0);
    }

    private static void faults() {
        faulty("o0 0 0;", 1, 0);
        faulty("c0 0,0,0,0,0;d1;", 1, 0);
        faulty("  x", 1, 2);
        faulty("5", 1, 0);
        faulty(";", 1, 0);
        faulty("D1;", 1, 0);
        faulty("d", 1, 1);
        faulty("d  ", 1, 3);
        faulty("d;", 1, 1);
        faulty("d,1;", 1, 1);
        faulty("d-1;", 1, 1);
        faulty("d1", 1, 2);
        faulty("d1  ", 1, 4);
        faulty("d1,", 1, 2);
        faulty("d1 2;", 1, 3);
        faulty("d1;;", 1, 3);
        faulty("d1;1", 1, 3);
        faulty("d1;x", 1, 3);
        faulty("d1;\t", 1, 3);
        faulty("d1:", 1, 2);
        faulty("d/1;", 1, 1);
        faulty("d1;c", 1, 4);
        faulty("d1;c0", 1, 5);
        faulty("d1;c0,0,0,0,0,0;", 1, 5);
        faulty("d1;c0 0", 1, 7);
        faulty("d1;c0 0 0", 1, 8);
        faulty("d1;c0 0;", 1, 7);
        faulty("d1;c0 0,,", 1, 8);
        faulty("d1;c0 0,0,0,0;", 1, 13);
        faulty("d1;c0 0,0,0,0,0", 1, 15);
        faulty("d1;c0 0,0,0,0,0,0;", 1, 15);
        faulty("d1;c0 0,0,0,0,0 0;", 1, 16);
        faulty("d1;c0 0,0,0,0,d;", 1, 14);
        faulty("d1;o0,0 0;", 1, 5);
        faulty("d1;o0 0;", 1, 7);
        faulty("d1;o0 0 0", 1, 9);
        faulty("d1;o0 0 0 0;", 1, 10);
        faulty("d1;o0 0 0,", 1, 9);
        faulty("d0;", 2, 1);
        faulty("d21;", 2, 1);
        faulty("d 21", 2, 2);
        faulty("d999", 2, 1);
        faulty("d0001;", 2, 1);
        faulty("d4294967297;", 2, 1);
        faulty("d10000000000000000000000000000000000001;", 2, 1);
        faulty("d1;c61 0,0,0,0,0;", 2, 4);
        faulty("d1;c100,0,0,0,0;", 2, 4);
        faulty("d1;c0 21,0,0,0,0;", 2, 6);
        faulty("d1;c0 0,0,0,0,21;", 2, 14);
        faulty("d1;c0 0,0,0,0,0000;", 2, 14);
        faulty("d1;o4 0 0;", 2, 4);
        faulty("d1;o00 0 21;o0 21 0;", 2, 15);
        faulty("d1;o0 0 32;", 2, 8);
        faulty("d1;o012 3;", 2, 4);
        faulty("d21x", 2, 1);
        faulty("d1x21", 1, 2);
        faulty("d1;d", 3, 3);
        faulty("d1; d21;", 3, 4);
        faulty("d1;c0 0,0,0,0,0;d1;", 3, 16);
        faulty("d1;c0 0,0,0,0,0;c0 0,0,0,0,0;c0 0,0,0,0,0;c0 0,0,0,0,0;c0 0,0,0,0,0;c0 0,0,0,0,0;c", 3, 81);
        faulty("d1;o0 0 0;o0 0 0;o0 0 0;o0 0 0;o0 0 0;o0 0 0;o9999", 3, 45);
    }

    private static void deaneryStartsAnew() {
        WeddingReasons x = Check.of(Check.PLACE);
        x.stand(0, 0);
        x.year(3);
        x.teach(1, 0, true);
        x.hear(0, 1, 20);
        x.say(0, 1, 2);
        x.write(0, 1);
        x.seed(99);
        x.keep(0);
        x.sour(0, 1);
        Check.feedAll(x, Check.PLACE);
        CHECK.due("told(3)", x.told(3), Check.PLACE.length());
        CHECK.due("deanery() again", x.deanery(), 4);
        CHECK.same("all behind deanery()", Check.seen(x), Check.seen(Check.of(Check.PLACE)));
        CHECK.due("goBack(0)", x.goBack(0), Check.NOT);
        CHECK.due("undo()", x.undo(), Check.NOT);
        CHECK.due("seed(0)", x.seed(0), 99);
        x.year(3);
        x.write(0, 1);
        CHECK.due("deanery() of nothing", x.deanery(), 0);
        CHECK.same("all behind deanery()", Check.seen(x), Check.seen(new WeddingReasons()));
        CHECK.due("year(1)", x.year(1), Check.NOT);
    }

    private static void faultChangesNothingElse() {
        WeddingReasons x = Check.of(Check.PLACE);
        x.keep(1);
        x.stand(0, 0);
        x.year(3);
        x.say(0, 1, 2);
        x.write(0, 1);
        x.seed(99);
        String was = Check.seen(x);
        Check.feedAll(x, "d7;c0 0,0,0,0,0;o0 0 0;d");
        CHECK.due("deanery()", x.deanery(), -13);
        CHECK.due("fault()", x.fault(), 23);
        CHECK.due("told(3)", x.told(3), 0);
        CHECK.same("all but fault()", Check.seen(x), was);
        CHECK.due("undo()", x.undo(), 1);
        CHECK.due("goBack(1)", x.goBack(1), 1);
        CHECK.due("told(4)", x.told(4), 0);
        Check.feedAll(x, "d7;");
        CHECK.due("deanery() mended", x.deanery(), 0);
        CHECK.due("fault() mended", x.fault(), Check.NONE);
        CHECK.due("told(0) mended", x.told(0), 7);
    }

    private static void told() {
        WeddingReasons x = Check.of("d4;c9 0,0,0,0,0;c9 3,0,0,0,0;c9 9,0,0,0,0;c30 0,8,0,0,0;o0 1 1;o3 3 0;o1 1 2;o0 0 2;");
        CHECK.due("told(-1)", x.told(-1), Check.OUTSIDE);
        CHECK.due("told(16)", x.told(16), Check.OUTSIDE);
        int[] first = {4, 4, 4, 0, 0, 15, 0, 0, 0, 0, 1, -1, -1, 0, 0, 0};
        for (int what = 0; what < first.length; what++) {
            CHECK.due("told(" + what + ")", x.told(what), first[what]);
        }
        CHECK.due("stand(0, 2)", x.stand(0, 2), 0);
        CHECK.due("stand(2, 3)", x.stand(2, 3), 1);
        x.say(0, 0, 0);
        x.write(1, 9);
        x.write(1, 9);
        x.feed('d');
        int[] then = {4, 4, 4, 1, 0, 3, 8, 4, 5, 2, 1, 3, -1, 1, 2, 2};
        for (int what = 0; what < then.length; what++) {
            CHECK.due("then told(" + what + ")", x.told(what), then[what]);
        }
        x.year(1);
        CHECK.due("stand(0, 1)", x.stand(0, 1), 1);
        CHECK.due("told(6)", x.told(6), 10);
        CHECK.due("told(11): 5 against 16", x.told(11), 3);
        CHECK.due("told(8)", x.told(8), 1);
        CHECK.due("told(4)", x.told(4), 1);
        CHECK.due("told(10)", x.told(10), 1);
        firmestOfLikeOnes();
        few();
        plainWithoutObjectors();
    }

    private static void firmestOfLikeOnes() {
        WeddingReasons x = Check.of("d1;c9 0,0,0,0,0;c9 0,0,0,0,0;c9 0,0,0,0,0;o3 2 0;o3 5 0;o3 5 0;");
        x.stand(2, 2);
        CHECK.due("told(11), one", x.told(11), 2);
        x.stand(1, 1);
        CHECK.due("told(11), like ones", x.told(11), 1);
        x.stand(0, 0);
        CHECK.due("told(11), a weaker one", x.told(11), 1);
        CHECK.due("told(12), none waits", x.told(12), 0);
        WeddingReasons y = Check.of("d1;c9 0,0,0,0,0;c9 0,0,0,0,0;o3 5 0;o3 2 0;");
        y.stand(0, 0);
        y.stand(1, 1);
        CHECK.due("told(11), the first couple", y.told(11), 0);
    }

    private static void few() {
        WeddingReasons x = Check.of("d5;c9 9,0,0,0,0;c9 0,9,0,0,0;c9 0,0,9,0,0;o0 0 1;o0 0 2;o0 0 4;o0 0 3;o3 9 0;");
        CHECK.due("told(12), one does for all", x.told(12), 16);
        x.sour(4, 0);
        CHECK.due("told(12), two", x.told(12), 4 + 8);
        x.stand(2, 2);
        CHECK.due("told(12), who waits alone", x.told(12), 8);
        x.stand(3, 0);
        CHECK.due("told(12), who stood up, too: the least", x.told(12), 2);
        x.sour(1, 1);
        CHECK.due("told(12), who stood up, too", x.told(12), 8);
        x.practise(1, 8);
        CHECK.due("told(12), none", x.told(12), Check.NONE);
    }

    private static void plainWithoutObjectors() {
        WeddingReasons x = Check.of("d5;c9 9,0,0,0,0;c9 0,9,0,0,0;");
        CHECK.due("told(10) without objectors", x.told(10), 3);
        CHECK.due("told(12) without objectors", x.told(12), Check.NONE);
        CHECK.due("couple(0, 9) without objectors", x.couple(0, 9), Check.NONE);
        CHECK.due("couple(0, 8) without objectors", x.couple(0, 8), 0);
        CHECK.due("match(NONE) without objectors", x.match(-1), 0);
        CHECK.due("holds(0, 0) without objectors", x.holds(0, 0), 0);
        CHECK.due("holds(0, 1) without objectors", x.holds(0, 1), Check.UNKNOWN);
    }

    private static void couple() {
        WeddingReasons x = Check.of(Check.PLACE);
        int[][] want = {
            {3, 0, 8, 0, 1, 10, 0, -1, 17, 2},
            {0, 0, 0, 0, 0, 20, 0, -1, 8, 2},
            {9, 9, 2, 0, 0, 6, 0, -1, 0, 2},
            {0, 0, 0, 15, 0, 30, 0, -1, 28, 1}};
        for (int c = 0; c < want.length; c++) {
            for (int what = 0; what < want[c].length; what++) {
                CHECK.due("couple(" + c + ", " + what + ")", x.couple(c, what), want[c][what]);
            }
        }
        CHECK.due("couple(-1, 0)", x.couple(-1, 0), Check.UNKNOWN);
        CHECK.due("couple(4, 0)", x.couple(4, 0), Check.UNKNOWN);
        CHECK.due("couple(4, 10)", x.couple(4, 10), Check.UNKNOWN);
        CHECK.due("couple(3, 10)", x.couple(3, 10), Check.OUTSIDE);
        CHECK.due("couple(3, -1)", x.couple(3, -1), Check.OUTSIDE);
        x.stand(4, 0);
        CHECK.due("couple(3, 8), who stood up, too", x.couple(3, 8), 28);
        CHECK.due("couple(0, 6), wed", x.couple(0, 6), 1);
        CHECK.due("couple(0, 7), wed", x.couple(0, 7), 10);
        CHECK.due("couple(0, 8), wed", x.couple(0, 8), 0);
        CHECK.due("couple(0, 9), wed", x.couple(0, 9), 2);
        x.stand(0, 2);
        CHECK.due("couple(2, 6), home", x.couple(2, 6), 2);
        CHECK.due("couple(2, 7), home", x.couple(2, 7), Check.NONE);
    }

    private static void weakest() {
        WeddingReasons x = Check.of("d9;c9 3,0,0,0,0;o3 4 0;o3 4 0;o0 1 1;o3 5 0;");
        CHECK.due("couple(0, 9), of like ones the least", x.couple(0, 9), 0);
        x.sour(0, 5);
        CHECK.due("couple(0, 9), an uncle who will be 5", x.couple(0, 9), 1);
        x.sour(1, 5);
        CHECK.due("couple(0, 9), an uncle who will be 5", x.couple(0, 9), 2);
        x.sour(3, 3);
        CHECK.due("couple(0, 9), the last", x.couple(0, 9), 3);
    }

    private static void objector() {
        WeddingReasons x = Check.of(Check.PLACE);
        int[][] want = {{0, 4, 3, 0}, {1, 6, 4, 0}, {2, 8, 8, 0}, {3, 12, 0, 0}, {0, 2, 31, 0}};
        for (int o = 0; o < want.length; o++) {
            for (int what = 0; what < want[o].length; what++) {
                CHECK.due("objector(" + o + ", " + what + ")", x.objector(o, what), want[o][what]);
            }
        }
        CHECK.due("objector(-1, 0)", x.objector(-1, 0), Check.UNKNOWN);
        CHECK.due("objector(5, 0)", x.objector(5, 0), Check.UNKNOWN);
        CHECK.due("objector(5, 4)", x.objector(5, 4), Check.UNKNOWN);
        CHECK.due("objector(4, 4)", x.objector(4, 4), Check.OUTSIDE);
        CHECK.due("objector(4, -1)", x.objector(4, -1), Check.OUTSIDE);
        x.stand(3, 1);
        CHECK.due("objector(3, 3)", x.objector(3, 3), 1);
        CHECK.due("objector(2, 3)", x.objector(2, 3), 0);
        x.year(1);
        CHECK.due("objector(3, 3) a year on", x.objector(3, 3), 0);
    }

    private static void box() {
        WeddingReasons x = Check.of(Check.PLACE);
        x.stand(0, 0);
        x.year(2);
        x.stand(3, 1);
        x.stand(1, 2);
        int[][] want = {{2, 2, 1, 2, 7}, {2, 1, 3, -1, 12}, {0, 0, 0, 0, 7}, {-1, -1, -1, -1, -1}};
        for (int i = 0; i < want.length; i++) {
            for (int what = 0; what < want[i].length; what++) {
                CHECK.due("box(" + i + ", " + what + ")", x.box(i, what), want[i][what]);
            }
        }
        CHECK.due("box(-1, 0)", x.box(-1, 0), Check.NONE);
        CHECK.due("box(0, -1)", x.box(0, -1), Check.OUTSIDE);
        CHECK.due("box(0, 5)", x.box(0, 5), Check.OUTSIDE);
        CHECK.due("box(99, 5)", x.box(99, 5), Check.OUTSIDE);
        WeddingReasons y = Check.of("d1;c9 5,5,5,5,5;o0 7 0;");
        y.stand(0, 0);
        CHECK.due("box(0, 3), an uncle who knows none", y.box(0, 3), Check.NONE);
        CHECK.due("box(0, 4), an uncle who knows none", y.box(0, 4), 7);
    }

    private static void strengths(String objector, int w, int want, int reason) {
        WeddingReasons x = Check.of("d1;c9 0,0," + w + ",0,0;o" + objector + ";");
        CHECK.due("against(0, 0, 0) of " + objector + " by " + w, x.against(0, 0, 0), want);
        CHECK.due("against(0, 0, 1) of " + objector + " by " + w, x.against(0, 0, 1), reason);
    }

    private static void against() {
        strengths("0 20 4", 20, 40, 2);
        strengths("0 7 0", 20, 7, -1);
        strengths("1 7 4", 9, 21, 2);
        strengths("1 7 0", 9, 3, -1);
        strengths("2 7 4", 9, 15, 2);
        strengths("2 3 4", 1, 0, 2);
        strengths("2 20 4", 20, 100, 2);
        strengths("2 20 0", 20, 0, -1);
        strengths("3 7 4", 9, 7, -1);
        strengths("3 0 31", 9, 0, -1);
        WeddingReasons x = Check.of("d5;c9 2,7,7,20,7;c0 0,0,0,0,0;o0 1 22;o0 1 9;o0 1 1;o0 1 24;");
        CHECK.due("of like ones the least", x.against(0, 0, 1), 1);
        CHECK.due("the most", x.against(1, 0, 1), 3);
        CHECK.due("the only one", x.against(2, 0, 1), 0);
        CHECK.due("the most", x.against(3, 0, 0), 21);
        CHECK.due("nothing against them", x.against(3, 1, 1), 3);
        CHECK.due("nothing against them", x.against(3, 1, 0), 1);
        CHECK.due("against(-1, 0, 0)", x.against(-1, 0, 0), Check.UNKNOWN);
        CHECK.due("against(4, 0, 0)", x.against(4, 0, 0), Check.UNKNOWN);
        CHECK.due("against(0, -1, 0)", x.against(0, -1, 0), Check.UNKNOWN);
        CHECK.due("against(0, 2, 2)", x.against(0, 2, 2), Check.UNKNOWN);
        CHECK.due("against(0, 1, 2)", x.against(0, 1, 2), Check.OUTSIDE);
        CHECK.due("against(0, 1, -1)", x.against(0, 1, -1), Check.OUTSIDE);
    }
}
