/** Section 1 and promises 2 to 4, each sentence with a bound: the last that is within it, the first beyond. */
public final class TextBoundsTest {
    private static final Check CHECK = new Check();
    private static final String FIGURES = "0123456789";
    private static final String COUPLE = "c0 0,0,0,0,0;";
    private static final String OBJECTOR = "o0 0 0;";

    public static void main(String[] args) {
        letters();
        text240();
        everyLetterAtEveryPlace();
        everyNumber();
        numbersComeThrough();
        figures();
        sixAtMost();
        leastFirstOnce();
        blanks();
        blanksAnywhereButWithinNumbers();
        firstFaultCounts();
        leastOfLikeFaults();
        theEnd();
        emptyText();
        textIsEmptyThen();
        latestFault();
        CHECK.end();
    }

    private static WeddingReasons told(String text) {
        WeddingReasons x = new WeddingReasons();
        Check.feedAll(x, text);
        return x;
    }

    /** Fault 0 is none; the place is NONE then. */
    private static void reads(String text, int fault, int at) {
        WeddingReasons x = told(text);
        int answer = x.deanery();
        CHECK.due("deanery() of '" + text + "' is a fault", Math.min(answer, 0), fault == 0 ? 0 : -10 - fault);
        CHECK.due("fault() of '" + text + "'", x.fault(), at);
    }

    private static void fine(String text) {
        reads(text, 0, Check.NONE);
    }

    /** "One letter (a number 0 .. 255)". */
    private static void letters() {
        for (int letter = 0; letter <= 255; letter++) {
            CHECK.due("feed(" + letter + ")", new WeddingReasons().feed(letter), 1);
        }
        int[] beyond = {-1, 256, 257, 32 - 256, 32 + 256, 100 + 65536, Integer.MIN_VALUE, Integer.MAX_VALUE, Check.FULL};
        for (int letter : beyond) {
            WeddingReasons x = new WeddingReasons();
            CHECK.due("feed(" + letter + ")", x.feed(letter), Check.OUTSIDE);
            CHECK.due("told(3) behind feed(" + letter + ")", x.told(3), 0);
        }
    }

    /** "240 letters at most": the 240th counts, the 241st does not. */
    private static void text240() {
        String text = COUPLE + OBJECTOR;
        String padded = "d4;" + " ".repeat(240 - 3 - text.length()) + text;
        WeddingReasons x = new WeddingReasons();
        for (int i = 0; i < 239; i++) {
            CHECK.due("feed, letter " + i, x.feed(padded.charAt(i)), i + 1);
        }
        CHECK.due("told(3) of 239", x.told(3), 239);
        CHECK.due("feed, the 240th", x.feed(padded.charAt(239)), 240);
        CHECK.due("told(3) of 240", x.told(3), 240);
        CHECK.due("feed, the 241st", x.feed('x'), Check.FULL);
        CHECK.due("feed, the 241st, a blank", x.feed(' '), Check.FULL);
        CHECK.due("feed, the 241st, outside", x.feed(-1), Check.OUTSIDE);
        CHECK.due("feed, the 241st, outside", x.feed(256), Check.OUTSIDE);
        CHECK.due("told(3)", x.told(3), 240);
        CHECK.due("deanery() of 240", x.deanery(), 1);
        CHECK.due("told(0)", x.told(0), 4);
        CHECK.due("told(2)", x.told(2), 1);
        CHECK.due("feed behind it", x.feed('x'), 1);
        reads(padded.substring(0, 239), 1, 239);
    }

    /** At a place: which letters lead on to a missing rest, which to none; all others cannot stand there. */
    private static void place(String prefix, String leadOn, String end) {
        int at = prefix.length();
        for (char letter = 0; letter <= 255; letter++) {
            if (leadOn.indexOf(letter) >= 0) {
                reads(prefix + letter, 1, at + 1);
            } else if (end.indexOf(letter) >= 0) {
                fine(prefix + letter);
            } else if (!isOddPlace(prefix, letter)) {
                reads(prefix + letter, 1, at);
            }
        }
    }

    /** Faults 2 and 3 have rows of their own. */
    private static boolean isOddPlace(String prefix, char letter) {
        boolean anew = prefix.trim().endsWith(";") && letter == 'd';
        boolean least = prefix.equals("d") && letter == '0';
        boolean kind = prefix.startsWith("d1;o") && prefix.length() <= 5 && letter >= '4' && letter <= '9';
        return anew || least || kind;
    }

    /** "1 it cannot stand there (a letter that is no word, another word first than 'd'; another letter where a ',' or ';' is due)". */
    private static void everyLetterAtEveryPlace() {
        place("", "d", " ");
        place("  ", "d", " ");
        place("d", "123456789 ", "");
        place("d1", FIGURES + " ", ";");
        place("d1 ", " ", ";");
        place("d1;", "co", " ");
        place("d1; ", "co", " ");
        place("d1;c", FIGURES + " ", "");
        place("d1;c0", FIGURES + " ", "");
        place("d1;c0 ", FIGURES + " ", "");
        place("d1;c0 0", FIGURES + " ,", "");
        place("d1;c0 0 ", " ,", "");
        place("d1;c0 0,", FIGURES + " ", "");
        place("d1;c0 0,0", FIGURES + " ,", "");
        place("d1;c0 0,0,0", FIGURES + " ,", "");
        place("d1;c0 0,0,0,0", FIGURES + " ,", "");
        place("d1;c0 0,0,0,0,", FIGURES + " ", "");
        place("d1;c0 0,0,0,0,0", FIGURES + " ", ";");
        place("d1;c0 0,0,0,0,0 ", " ", ";");
        place("d1;c0 0,0,0,0,0;", "co", " ");
        place("d1;o", "0123 ", "");
        place("d1;o0", "0123 ", "");
        place("d1;o0 ", FIGURES + " ", "");
        place("d1;o0 0", FIGURES + " ", "");
        place("d1;o0 0 ", FIGURES + " ", "");
        place("d1;o0 0 0", FIGURES + " ", ";");
        place("d1;o0 0 0 ", " ", ";");
        place("d1;o0 0 0;", "co", " ");
        reads("d0", 2, 1);
        reads("d1;d", 3, 3);
        reads("d1; d", 3, 4);
        reads("d1;c0 0,0,0,0,0;d", 3, 16);
        reads("d1;o0 0 0;d", 3, 10);
        for (char figure = '4'; figure <= '9'; figure++) {
            reads("d1;o" + figure, 2, 4);
            reads("d1;o0" + figure, 2, 4);
        }
    }

    /** Every number of one to four figures, in every form, at one place. */
    private static void bound(String prefix, int low, int high, String suffix) {
        for (int v = 0; v <= 999; v++) {
            for (int figures = 1; figures <= 4; figures++) {
                String number = String.format("%0" + figures + "d", v);
                boolean within = v >= low && v <= high && number.length() <= 3;
                reads(prefix + number + suffix, within ? 0 : 2, within ? Check.NONE : prefix.length());
            }
        }
        reads(prefix + "-1" + suffix, 1, prefix.length());
        reads(prefix + "+1" + suffix, 1, prefix.length());
        if (suffix.charAt(0) != ' ') {
            reads(prefix + suffix, 1, prefix.length());
        }
    }

    /** "1 .. 20", "0 .. 60", "0 .. 20 each", "0 .. 3", "0 .. 20", "0 .. 31"; "a NUMBER of four figures or more, or out of its bounds (at its first)". */
    private static void everyNumber() {
        bound("d", 1, 20, ";");
        bound("d1;c", 0, 60, " 0,0,0,0,0;");
        bound("d1;c0 ", 0, 20, ",0,0,0,0;");
        bound("d1;c0 0,", 0, 20, ",0,0,0;");
        bound("d1;c0 0,0,", 0, 20, ",0,0;");
        bound("d1;c0 0,0,0,", 0, 20, ",0;");
        bound("d1;c0 0,0,0,0,", 0, 20, ";");
        bound("d1;o", 0, 3, " 0 0;");
        bound("d1;o0 ", 0, 20, " 0;");
        bound("d1;o0 0 ", 0, 31, ";");
    }

    private static void numbersComeThrough() {
        WeddingReasons x = told("d20;c60 20,19,18,17,16;c0 0,1,2,3,4;o3 20 31;o0 0 0;o002 019 030;");
        CHECK.due("deanery()", x.deanery(), 2);
        CHECK.due("told(0), the most", x.told(0), 20);
        int[][] couples = {{20, 19, 18, 17, 16, 60, 0}, {0, 1, 2, 3, 4, 0, 0}};
        int[][] objectors = {{3, 20, 31, 0}, {0, 0, 0, 0}, {2, 19, 30, 0}};
        for (int c = 0; c < couples.length; c++) {
            for (int what = 0; what < couples[c].length; what++) {
                CHECK.due("couple(" + c + ", " + what + ")", x.couple(c, what), couples[c][what]);
            }
        }
        for (int o = 0; o < objectors.length; o++) {
            for (int what = 0; what < objectors[o].length; what++) {
                CHECK.due("objector(" + o + ", " + what + ")", x.objector(o, what), objectors[o][what]);
            }
        }
        WeddingReasons y = told("d001;");
        CHECK.due("deanery()", y.deanery(), 0);
        CHECK.due("told(0), the least", y.told(0), 1);
    }

    /** "NUMBERS have one to three figures": far more of them wrap around in no way. */
    private static void figures() {
        fine("d1;");
        fine("d12;");
        fine("d012;");
        reads("d0012;", 2, 1);
        String[] wraps = {"4294967297", "2147483649", "18446744073709551617", "65537", "257", "1001"};
        for (String wrap : wraps) {
            reads("d" + wrap + ";", 2, 1);
            reads("d1;c0 0,0,0," + wrap, 2, 12);
        }
        reads("d" + "0".repeat(238) + "1", 2, 1);
        reads("d1;c" + "0".repeat(236), 2, 4);
    }

    /** "6 COUPLES at most", "6 OBJECTORS at most", "a seventh 'c', 'o' (at it)". */
    private static void sixAtMost() {
        for (int n = 0; n <= 6; n++) {
            CHECK.due(n + " couples", deaneryOf("d1;" + COUPLE.repeat(n)), n);
            WeddingReasons x = told("d1;" + OBJECTOR.repeat(n));
            x.deanery();
            CHECK.due(n + " objectors", x.told(2), n);
        }
        fine("d1;" + COUPLE.repeat(6) + OBJECTOR.repeat(6));
        fine("d1;" + (OBJECTOR + COUPLE).repeat(6));
        reads("d1;" + COUPLE.repeat(7), 3, 3 + 6 * 13);
        reads("d1;" + COUPLE.repeat(6) + "c", 3, 3 + 6 * 13);
        reads("d1;" + COUPLE.repeat(6) + "  cx", 3, 5 + 6 * 13);
        reads("d1;" + COUPLE.repeat(6) + OBJECTOR + COUPLE, 3, 3 + 6 * 13 + 7);
        reads("d1;" + OBJECTOR.repeat(7), 3, 3 + 6 * 7);
        reads("d1;" + OBJECTOR.repeat(6) + "o", 3, 3 + 6 * 7);
        reads("d1;" + OBJECTOR.repeat(6) + COUPLE + "o9", 3, 3 + 6 * 7 + 13);
        reads("d1;" + COUPLE.repeat(6) + OBJECTOR.repeat(7), 3, 3 + 6 * 13 + 6 * 7);
        reads("d1;" + OBJECTOR.repeat(6) + COUPLE.repeat(7), 3, 3 + 6 * 13 + 6 * 7);
    }

    private static int deaneryOf(String text) {
        return told(text).deanery();
    }

    /** "first, once". */
    private static void leastFirstOnce() {
        reads("c", 1, 0);
        reads("o", 1, 0);
        reads(COUPLE + "d1;", 1, 0);
        reads(OBJECTOR + "d1;", 1, 0);
        reads("   " + OBJECTOR, 1, 3);
        reads("d1;d1;", 3, 3);
        reads("d1;" + COUPLE + OBJECTOR + "d1;", 3, 3 + 13 + 7);
        reads("d1;" + COUPLE.repeat(6) + OBJECTOR.repeat(6) + "d", 3, 123);
    }

    /** "blanks (32)": no other letter is one. */
    private static void blanks() {
        int[] others = {0, 9, 10, 11, 12, 13, 31, 33, 133, 160, 255};
        for (int other : others) {
            reads("d" + (char) other + "1;", 1, 1);
            reads("d1" + (char) other + ";", 1, 2);
            reads((char) other + "d1;", 1, 0);
            reads("d1;" + (char) other, 1, 3);
            reads("d1;o0" + (char) other + "0 0;", 1, 5);
        }
    }

    /** "blanks (32) may stand anywhere but within NUMBERS; two NUMBERS side by side need one". */
    private static void blanksAnywhereButWithinNumbers() {
        String[] parts = {"d", "12", ";", "c", "13", " ", "14", ",", "15", ",", "16", ",", "17", ",", "18", ";",
            "o", "3", " ", "19", " ", "20", ";"};
        for (int n = 0; n <= 3; n++) {
            String text = String.join(" ".repeat(n), parts);
            fine(text);
            fine("  " + text + "  ");
            CHECK.due("deanery() of '" + text + "'", deaneryOf(text), 1);
        }
        reads("d1 2;", 1, 3);
        reads("d1;c1 3 14,15,16,17,18;", 1, 8);
        reads("d1;c13 1 4,15,16,17,18;", 1, 9);
        reads("d1;c13 14,15,16,17,1 8;", 1, 21);
        reads("d1;o3 1 9 20;", 1, 10);
        reads("d1;o3 19 2 0;", 1, 11);
        reads("d1;c60,0,0,0,0;", 1, 6);
        reads("d1;c600,0,0,0,0;", 2, 4);
        reads("d1;o31931;", 2, 4);
        reads("d1;o3 1931;", 2, 6);
        reads("d1;o3 0031;", 2, 6);
        reads("d1;o3 019;", 1, 9);
    }

    /** "FAULTS, at the first letter that has one". */
    private static void firstFaultCounts() {
        reads("d1x21;", 1, 2);
        reads("d21x;", 2, 1);
        reads("d1;xd1;", 1, 3);
        reads("d1;d1x", 3, 3);
        reads("d1;d99;", 3, 3);
        reads("d99;d1;", 2, 1);
        reads("d1;c61 21,0,0,0,0;", 2, 4);
        reads("d1;c60 21,22,0,0,0;", 2, 7);
        reads("d1;o4 21 32;", 2, 4);
        reads("d1;o3 21 32;", 2, 6);
        reads("d1;o3 20 32x", 2, 9);
        reads("d1;c61", 2, 4);
        reads("d1;c61x", 2, 4);
        reads("d1;c9999 x", 2, 4);
        reads("d1;" + COUPLE.repeat(6) + "c61 ", 3, 81);
    }

    /** "of these the least". */
    private static void leastOfLikeFaults() {
        reads("d1 2000;", 1, 3);
        reads("d1 d1;", 1, 3);
        reads("dd1;", 1, 1);
        reads("d1;1000", 1, 3);
        reads("1000", 1, 0);
        reads("d1;c0 0,0,0,0,0 99;", 1, 16);
        reads("d1;o0 0 0 1000;", 1, 10);
        reads("d1;" + COUPLE.repeat(6) + "o0 0 0 c", 1, 88);
        reads("d1;" + OBJECTOR.repeat(6) + "c0 0,0,0,0,0 o", 1, 58);
        reads("d1;" + COUPLE.repeat(5) + "c0 0,0,0,0,0c", 1, 80);
    }

    /** "(the end at the text's length)". */
    private static void theEnd() {
        String text = "d1;c0 0,0,0,0,0;o0 0 0;";
        for (int n = 0; n <= text.length(); n++) {
            boolean whole = n == 0 || n == 3 || n == 16 || n == 23;
            reads(text.substring(0, n), whole ? 0 : 1, whole ? Check.NONE : n);
            reads(text.substring(0, n) + "   ", whole ? 0 : 1, whole ? Check.NONE : n + 3);
        }
        reads("d1;" + " ".repeat(236) + "o", 1, 240);
        reads("d1" + " ".repeat(238), 1, 240);
        fine("d1" + " ".repeat(237) + ";");
    }

    /** "An empty text (or one of blanks alone): no DEANERY." */
    private static void emptyText() {
        int[] blanks = {0, 1, 2, 239, 240};
        for (int n : blanks) {
            WeddingReasons x = Check.of("d5;c10 3,0,8,0,1;o0 4 3;");
            Check.feedAll(x, " ".repeat(n));
            CHECK.due("deanery() of " + n + " blanks", x.deanery(), 0);
            CHECK.due("fault() of " + n + " blanks", x.fault(), Check.NONE);
            CHECK.due("told(0) of " + n + " blanks", x.told(0), 0);
            CHECK.due("told(1) of " + n + " blanks", x.told(1), 0);
            CHECK.due("told(2) of " + n + " blanks", x.told(2), 0);
            CHECK.due("told(3) of " + n + " blanks", x.told(3), 0);
            CHECK.due("year(1) of " + n + " blanks", x.year(1), Check.NOT);
            CHECK.due("drift(1) of " + n + " blanks", x.drift(1), Check.NOT);
        }
        String gone = Situation.BUSY.behind(x -> {
            CHECK.due("deanery() of what was fed", x.deanery(), -11);
            CHECK.due("deanery() of an empty text", x.deanery(), 0);
            CHECK.due("seed(0) stays", x.seed(0), 5);
        });
        CHECK.same("all behind an empty text", gone, Situation.NEW.behind(x -> { }));
    }

    /** "THE TEXT (it is empty then, with a FAULT, too)"; "-10 less the number of its FAULT (all else is as it was)". */
    private static void textIsEmptyThen() {
        String[] texts = {"x", "d21;", "d1;d1;", "d1;" + COUPLE + OBJECTOR + "d"};
        int[] faults = {1, 2, 3, 3};
        for (int i = 0; i < texts.length; i++) {
            String text = texts[i];
            int want = -10 - faults[i];
            Situation place = new Situation("a fault", 4, 5, x -> {
                Check.feedAll(x, Check.PLACE);
                x.deanery();
                x.seed(9);
                x.stand(0, 0);
                x.keep(1);
                x.year(2);
                x.say(2, 3, 6);
                x.write(0, 10);
            });
            String was = place.behind(x -> { });
            String is = place.behind(x -> {
                Check.feedAll(x, text);
                CHECK.due("told(3)", x.told(3), text.length());
                CHECK.due("deanery() of '" + text + "'", x.deanery(), want);
                CHECK.due("told(3) behind a fault", x.told(3), 0);
            });
            CHECK.same("all but fault() behind '" + text + "'", withoutFault(is), withoutFault(was));
        }
    }

    private static String withoutFault(String seen) {
        return seen.replaceFirst("\nfault \\S+", "\nfault *");
    }

    /** "The letter of the FAULT of the latest deanery(); NONE." */
    private static void latestFault() {
        WeddingReasons x = new WeddingReasons();
        CHECK.due("fault() of none", x.fault(), Check.NONE);
        Check.feedAll(x, "d1;;");
        CHECK.due("fault() ahead of deanery()", x.fault(), Check.NONE);
        x.deanery();
        CHECK.due("fault()", x.fault(), 3);
        CHECK.due("fault() again", x.fault(), 3);
        Check.feedAll(x, "d1;");
        CHECK.due("fault() ahead of the next deanery()", x.fault(), 3);
        x.deanery();
        CHECK.due("fault() mended", x.fault(), Check.NONE);
        Check.feedAll(x, "x");
        x.deanery();
        CHECK.due("fault() at the first letter", x.fault(), 0);
        x.deanery();
        CHECK.due("fault() of an empty text", x.fault(), Check.NONE);
    }
}
