import java.math.BigInteger;

/** Section 3, each sentence with a bound: the last that is within it, the first beyond, on both sides. */
public final class TriedBoundsTest {
    private static final Check CHECK = new Check();

    public static void main(String[] args) {
        nothingChangesByIt();
        canOfThoseWhoWait();
        soonestByYears();
        soonestNone();
        unclesNow();
        matchOfNobodyAndOfAll();
        matchNoneLast();
        fewFromNoneToSix();
        roundsOfFive();
        roundsByYears();
        holdsNobody();
        plainAndFirmest();
        weakestOfLikeOnes();
        saidSix();
        everyWeight();
        askNone();
        everyDry();
        bookOf15();
        wrongFirst();
        seedWraps();
        drawsWithinBounds();
        drawsOfThoseWhoAre();
        undoneSixteen();
        undoneEachKind();
        notUndone();
        imagesTwo();
        CHECK.end();
    }

    /** "nothing changes by it". */
    private static void nothingChangesByIt() {
        Situation s = Situation.BUSY;
        CHECK.same("all behind what is tried", s.behind(x -> {
            x.soonest(3, 0);
            x.match(-1);
            x.match(-2);
            x.match(3);
            x.rounds(0, 8, 0);
            x.rounds(0, 8, 1);
            x.holds(3, 31);
            x.dry(60, 99);
            x.weights(0);
            x.weights(1);
            x.weights(2);
            x.ask();
            x.judge();
            x.fault();
            x.told(10);
            x.told(11);
            x.told(12);
            x.couple(3, 8);
            x.couple(3, 9);
            x.box(0, 0);
            x.against(0, 0, 0);
        }), s.whole());
    }

    /** CAN: "a COUPLE that waits"; "(who did this YEAR, too)". */
    private static void canOfThoseWhoWait() {
        WeddingReasons x = Situation.SIX.make();
        for (int c = 0; c < 6; c++) {
            CHECK.due("couple(" + c + ", 8), they wait", x.couple(c, 8), 63);
        }
        x.stand(5, 5);
        x.practise(0, 0);
        x.stand(0, 0);
        CHECK.due("couple(5, 8), wed", x.couple(5, 8), 0);
        CHECK.due("couple(0, 8), home", x.couple(0, 8), 0);
        CHECK.due("couple(1, 8), who did this year, too", x.couple(1, 8), 63);
        CHECK.due("couple(1, 8), nobody there", Situation.COUPLES_ALONE.make().couple(1, 8), 0);
    }

    /** SOONEST "behind how many YEARS (0 .. 200)": 0, 1 and the most that there can be, 99. */
    private static void soonestByYears() {
        WeddingReasons x = Check.of("d1;c0 0,0,0,0,0;o3 0 0;o2 0 1;");
        x.hear(0, 0, 10);
        for (int s = 1; s <= 40; s++) {
            x.sour(0, s);
            CHECK.due("a stranger of " + s + " against 0", x.soonest(0, 0), s);
        }
        for (int s = 1; s <= 39; s++) {
            x.sour(1, s);
            int strength = 10 * s / 4;
            CHECK.due("a rival of " + strength + " against 0", x.soonest(0, 1), strength);
        }
        WeddingReasons y = Check.of("d1;c0 18,20,0,0,0;o2 0 1;");
        y.sour(0, 22);
        CHECK.due("99, the most that comes", y.soonest(0, 0), 99);
        y.practise(0, 98);
        CHECK.due("99 against 98", y.soonest(0, 0), 1);
        y.practise(0, 99);
        CHECK.due("99 against 99", y.soonest(0, 0), 0);
        WeddingReasons z = Check.of("d20;c0 20,0,0,0,0;o0 0 0;");
        CHECK.due("an uncle of 0 is of 20 at last", z.soonest(0, 0), 20);
        z.practise(0, 99);
        CHECK.due("an uncle of 0 is of 20 at last", z.soonest(0, 0), 20);
        z.sour(0, 19);
        CHECK.due("an uncle of 19", z.soonest(0, 0), 1);
        z.sour(0, 20);
        CHECK.due("an uncle of 20", z.soonest(0, 0), 0);
        z.practise(0, 39);
        z.sour(0, 40);
        CHECK.due("an uncle of 40 sours no more", z.soonest(0, 0), 1);
        z.sour(0, 39);
        CHECK.due("an uncle of 39 against 39", z.soonest(0, 0), 0);
        z.practise(0, 38);
        CHECK.due("an uncle of 39 against 38: 40 against 39, 40 against 40", z.soonest(0, 0), 2);
        z.practise(0, 0);
        CHECK.due("an uncle of 39 against 0", z.soonest(0, 0), 40);
    }

    /** SOONEST "NONE". */
    private static void soonestNone() {
        WeddingReasons x = Check.of("d5;c0 20,20,0,0,0;o2 20 1;o3 4 0;o1 9 0;o2 20 0;");
        CHECK.due("100 is never held", x.soonest(0, 0), Check.NONE);
        CHECK.due("less than least for ever, a stranger", x.soonest(0, 1), Check.NONE);
        CHECK.due("less than least for ever, a mother", x.soonest(0, 2), Check.NONE);
        CHECK.due("a rival without a reason", x.soonest(0, 3), Check.NONE);
        x.practise(0, 99);
        CHECK.due("100 against 99", x.soonest(0, 0), Check.NONE);
        x.hear(0, 0, 19);
        CHECK.due("95 against 99", x.soonest(0, 0), 0);
    }

    /** WEAKEST, HOLDS, MATCH now: an uncle is as sour as he is, not as he will be. */
    private static void unclesNow() {
        WeddingReasons x = Check.of("d1;c9 0,0,0,0,0;c9 0,0,0,0,0;o3 9 0;o0 8 0;o3 8 0;o0 9 0;");
        CHECK.due("WEAKEST: an uncle of 8", x.couple(0, 9), 1);
        CHECK.due("HOLDS: an uncle of 8", x.holds(0, 2), 8);
        CHECK.due("CAN: an uncle of 9", x.couple(0, 8), 15);
        CHECK.due("MATCH together: two of 9", x.match(-2), 18);
        CHECK.due("MATCH: a stranger of 9", x.match(0), 0);
        CHECK.due("MATCH: an uncle of 9", x.match(1), 3);
        x.sour(1, 9);
        CHECK.due("WEAKEST: a stranger of 8", x.couple(0, 9), 2);
        x.sour(3, 10);
        CHECK.due("CAN: an uncle of 10", x.couple(0, 8), 7);
        CHECK.due("stand: an uncle of 9", x.stand(1, 0), 1);
        CHECK.due("box: an uncle of 9", x.box(0, 4), 9);
        CHECK.due("stand: an uncle of 10", x.stand(3, 1), 0);
    }

    /** MATCH of nobody, of couples alone, of objectors alone, of all six. */
    private static void matchOfNobodyAndOfAll() {
        Situation[] none = {Situation.NEW, Situation.BARE, Situation.COUPLES_ALONE, Situation.OBJECTORS_ALONE};
        for (Situation s : none) {
            CHECK.due(s.name + ": match(NONE)", s.make().match(-1), 0);
            CHECK.due(s.name + ": match(-2)", s.make().match(-2), 0);
        }
        WeddingReasons x = Situation.SIX.make();
        for (int o = 0; o < 6; o++) {
            x.sour(o, 4 + o);
            x.practise(o, 9 - o);
        }
        for (int c = 0; c < 6; c++) {
            CHECK.due("match(" + c + "), one way alone", x.match(c), 5 - c);
        }
        CHECK.due("match(NONE)", x.match(-1), 6);
        CHECK.due("match(-2)", x.match(-2), 4 + 5 + 6 + 7 + 8 + 9);
        x.practise(5, 3);
        CHECK.due("match(5), none for them", x.match(5), Check.NONE);
        CHECK.due("match(NONE)", x.match(-1), 5);
        CHECK.due("match(-2), the strongest", x.match(-2), 5 + 6 + 7 + 8 + 9);
    }

    /** "of like ones the first (COUPLE by COUPLE the lesser OBJECTOR, none last)". */
    private static void matchNoneLast() {
        WeddingReasons x = Check.of("d1;c9 0,0,0,0,0;c9 0,0,0,0,0;c9 0,0,0,0,0;o3 5 0;");
        int[] want = {0, Check.NONE, Check.NONE};
        for (int c = 0; c < 3; c++) {
            CHECK.due("match(" + c + "), one objector", x.match(c), want[c]);
        }
        x.practise(0, 4);
        int[] middle = {Check.NONE, 0, Check.NONE};
        for (int c = 0; c < 3; c++) {
            CHECK.due("match(" + c + "), one objector, not for the first", x.match(c), middle[c]);
        }
        WeddingReasons y = Situation.SIX.make();
        for (int c = 0; c < 6; c++) {
            CHECK.due("match(" + c + "), all alike", y.match(c), c);
        }
        y.practise(2, 0);
        int[] gap = {0, 1, Check.NONE, 2, 3, 4};
        for (int c = 0; c < 6; c++) {
            CHECK.due("match(" + c + "), none for one amid them", y.match(c), gap[c]);
        }
        CHECK.due("match(NONE), none for one amid them", y.match(-1), 5);
        WeddingReasons z = Check.of("d1;c9 0,0,0,0,0;c9 0,0,0,0,0;o3 2 0;o3 9 0;o3 9 0;");
        CHECK.due("match(0), the strongest, the lesser", z.match(0), 1);
        CHECK.due("match(1), the strongest", z.match(1), 2);
        z.sour(2, 8);
        CHECK.due("match(0), like together", z.match(0), 1);
        CHECK.due("match(1), like together", z.match(1), 2);
        CHECK.due("match(-2)", z.match(-2), 17);
    }

    /** FEW: "a SET; of like ones the least"; from none to all six; "NONE". */
    private static void fewFromNoneToSix() {
        CHECK.due("nobody waits: none is needed", Situation.OBJECTORS_ALONE.make().told(12), 0);
        CHECK.due("nobody objects", Situation.COUPLES_ALONE.make().told(12), Check.NONE);
        StringBuilder text = new StringBuilder("d1;");
        for (int i = 0; i < 6; i++) {
            text.append("c").append(i + 1).append(" 0,0,0,0,0;");
        }
        WeddingReasons x = Check.of(text + "o3 1 0;o3 2 0;o3 3 0;o3 4 0;o3 5 0;o3 6 0;");
        CHECK.due("the weakest does for all", x.told(12), 1);
        x.sour(0, 7);
        CHECK.due("nobody does for the first", x.told(12), Check.NONE);
        x.practise(0, 2);
        CHECK.due("the second does for all", x.told(12), 2);
        WeddingReasons y = Check.of("d9;c9 9,0,0,0,0;c9 0,9,0,0,0;c9 0,0,9,0,0;c9 0,0,0,9,0;c9 0,0,0,0,9;c1 0,0,0,0,0;"
                + "o0 0 1;o0 0 2;o0 0 4;o0 0 8;o0 0 16;o0 9 0;");
        CHECK.due("one cannot be wed", y.told(12), Check.NONE);
        y.practise(5, 9);
        CHECK.due("one does for all, the last", y.told(12), 32);
        for (int c = 0; c < 5; c++) {
            y.practise(c, 10);
            y.hear(c, c, 10);
        }
        y.sour(5, 8);
        y.hear(5, 0, 0);
        CHECK.due("the last is less than least", y.told(12), Check.NONE);
        y.sour(5, 9);
        y.practise(5, 9);
        CHECK.due("the last does for all again", y.told(12), 32);
        allSixAreNeeded();
        likeOnesTheLeast();
    }

    private static void allSixAreNeeded() {
        WeddingReasons x = Check.of("d20;c60 20,0,0,0,0;c60 0,20,0,0,0;c60 0,0,20,0,0;c60 0,0,0,20,0;c60 0,0,0,0,20;c20 0,0,0,0,0;"
                + "o0 0 1;o0 0 2;o0 0 4;o0 0 8;o0 0 16;o3 20 0;");
        for (int c = 0; c < 5; c++) {
            x.practise(c, 20);
        }
        CHECK.due("the stranger alone", x.told(12), 32);
        for (int c = 0; c < 5; c++) {
            x.hear(c, c, 10);
            x.sour(c, 10);
            x.practise(c, 20);
        }
        x.practise(5, 39);
        x.sour(5, 39);
        CHECK.due("each has one alone", x.told(12), 63);
        x.stand(3, 3);
        CHECK.due("one is wed", x.told(12), 63 - 8);
        x.practise(0, 19);
        CHECK.due("one is weak", x.told(12), Check.NONE);
    }

    private static void likeOnesTheLeast() {
        WeddingReasons x = Check.of("d5;c9 9,0,0,0,0;c9 0,9,0,0,0;c9 0,0,9,0,0;o0 0 4;o0 0 3;o0 0 5;o0 0 2;o0 0 1;o0 0 6;");
        CHECK.due("two of them, the least set", x.told(12), 1 + 2);
        x.teach(0, 2, false);
        CHECK.due("two of them, the next set", x.told(12), 2 + 4);
        x.teach(2, 2, false);
        CHECK.due("two of them, the next set", x.told(12), 2 + 32);
        x.teach(5, 0, true);
        CHECK.due("one does for all, and less than two of lesser numbers", x.told(12), 32);
    }

    /** ROUNDS "for a SET of COUPLES that wait (5 at most)": every SET of six. */
    private static void roundsOfFive() {
        for (int set = 0; set < 64; set++) {
            WeddingReasons x = Situation.SIX.make();
            boolean six = set == 63;
            int figures = 0;
            for (int c = 0; c < 6; c++) {
                figures = (set >> c & 1) == 1 ? figures * 10 + c + 1 : figures;
            }
            CHECK.due("rounds(0, " + set + ", 0)", x.rounds(0, set, 0), six ? Check.NOT : Integer.bitCount(set));
            CHECK.due("rounds(5, " + set + ", 1)", x.rounds(5, set, 1), six ? Check.NOT : figures);
            x.stand(1, 2);
            boolean bad = six || (set & 4) != 0;
            CHECK.due("rounds(0, " + set + ", 0), one is wed", x.rounds(0, set, 0), bad ? Check.NOT : Integer.bitCount(set));
        }
    }

    /** ROUNDS: "one each YEAR, the first now"; "of like ones the least"; 99 and 40 at most there, too. */
    private static void roundsByYears() {
        WeddingReasons x = Check.of("d1;c5 0,0,0,0,0;c4 0,0,0,0,0;c3 0,0,0,0,0;c2 0,0,0,0,0;c1 0,0,0,0,0;o3 5 0;");
        CHECK.due("each just in its year", x.rounds(0, 31, 0), 5);
        CHECK.due("each just in its year", x.rounds(0, 31, 1), 12345);
        x.practise(4, 0);
        CHECK.due("one is late by a year", x.rounds(0, 31, 0), 4);
        CHECK.due("one is late by a year, the least order", x.rounds(0, 31, 1), 12345);
        x.practise(0, 4);
        CHECK.due("two are late by a year", x.rounds(0, 31, 0), 4);
        CHECK.due("two are late by a year, the least order", x.rounds(0, 31, 1), 51234);
        x.sour(0, 0);
        CHECK.due("less than least does nothing", x.rounds(0, 31, 0), 0);
        CHECK.due("less than least: the least order", x.rounds(0, 31, 1), 12345);
        WeddingReasons y = Check.of("d5;c60 0,0,0,0,0;c60 0,0,0,0,0;o0 4 0;");
        CHECK.due("an uncle is less than least now", y.rounds(0, 3, 0), 1);
        CHECK.due("the least order", y.rounds(0, 3, 1), 12);
        CHECK.due("one alone, now", y.rounds(0, 2, 0), 0);
        CHECK.due("one alone, now, the figures", y.rounds(0, 2, 1), 2);
        WeddingReasons z = Check.of("d1;c0 20,0,0,0,0;c0 19,0,0,0,0;o2 20 1;o0 20 1;");
        z.practise(0, 99);
        z.practise(1, 98);
        CHECK.due("99 at most: 100 is not held a year on", z.rounds(0, 3, 0), 1);
        CHECK.due("99 at most: the figures", z.rounds(0, 3, 1), 12);
        z.practise(0, 59);
        z.practise(1, 58);
        z.sour(1, 40);
        CHECK.due("40 at most: 60 against 59, 60; 59 against 58, 59", z.rounds(1, 3, 0), 1);
        CHECK.due("40 at most: the figures", z.rounds(1, 3, 1), 12);
        z.practise(1, 59);
        CHECK.due("40 at most: 59 against 59, 60 against 60", z.rounds(1, 3, 0), 2);
        CHECK.due("40 at most: the figures", z.rounds(1, 3, 1), 21);
        WeddingReasons last = Situation.SIX.make();
        last.practise(0, 0);
        CHECK.due("the figures of the last five", last.rounds(0, 62, 1), 23456);
        CHECK.due("the first of them a year on", last.rounds(0, 31, 1), 21345);
        CHECK.due("all of them", last.rounds(0, 31, 0), 5);
    }

    /** HOLDS: "(0: nobody)". */
    private static void holdsNobody() {
        WeddingReasons x = Check.of("d10;c60 0,0,0,0,0;o3 9 0;o3 10 0;o3 20 0;o3 9 0;o3 11 0;o3 0 0;");
        for (int set = 0; set < 64; set++) {
            int want = (set & 4) != 0 ? 20 : (set & 16) != 0 ? 11 : (set & 2) != 0 ? 10 : 0;
            CHECK.due("holds(0, " + set + ")", x.holds(0, set), want);
        }
        x.stand(2, 0);
        CHECK.due("holds(0, 63), wed", x.holds(0, 63), 20);
        CHECK.due("holds(0, 0), nobody there", Situation.COUPLES_ALONE.make().holds(0, 0), 0);
    }

    /** PLAIN: "COUPLES that wait"; FIRMEST: "of like ones the least; NONE". */
    private static void plainAndFirmest() {
        WeddingReasons x = Situation.SIX.make();
        CHECK.due("PLAIN, none", x.told(10), 0);
        CHECK.due("FIRMEST, none is wed", x.told(11), Check.NONE);
        x.stand(5, 5);
        x.stand(4, 4);
        CHECK.due("FIRMEST of like ones", x.told(11), 4);
        x.sour(3, 9);
        x.stand(3, 3);
        CHECK.due("FIRMEST, the lesser is firmer", x.told(11), 3);
        x.sour(2, 9);
        x.practise(2, 8);
        x.stand(2, 2);
        CHECK.due("FIRMEST, who went home is not", x.told(11), 3);
        for (int o = 0; o < 6; o++) {
            x.sour(o, 0);
        }
        CHECK.due("PLAIN, who waits alone", x.told(10), 3);
        CHECK.due("PLAIN, nobody there", Situation.COUPLES_ALONE.make().told(10), 3);
        CHECK.due("PLAIN, no couples", Situation.OBJECTORS_ALONE.make().told(10), 0);
        WeddingReasons y = Check.of("d1;c0 0,0,0,0,0;o3 1 0;");
        y.stand(0, 0);
        CHECK.due("FIRMEST, home alone", y.told(11), Check.NONE);
    }

    /** WEAKEST: "of like ones the least; NONE: there are none". */
    private static void weakestOfLikeOnes() {
        WeddingReasons x = Situation.SIX.make();
        CHECK.due("all alike", x.couple(5, 9), 0);
        for (int o = 5; o >= 0; o--) {
            x.sour(o, 0);
            CHECK.due("the weakest is " + o, x.couple(5, 9), o);
        }
        for (int o = 0; o < 5; o++) {
            x.sour(o, 40);
            CHECK.due("the weakest is " + (o + 1), x.couple(5, 9), o + 1);
        }
        x.sour(5, 40);
        CHECK.due("all alike", x.couple(5, 9), 0);
        CHECK.due("there are none", Situation.COUPLES_ALONE.make().couple(0, 9), Check.NONE);
    }

    /** "SAID (6 at most)", k "0 .. 2", s "0 .. 40", v "0 .. 99". */
    private static void saidSix() {
        for (int kind = 0; kind <= 2; kind++) {
            for (int s = 0; s <= 40; s += 40) {
                for (int v = 0; v <= 99; v += 99) {
                    WeddingReasons x = new WeddingReasons();
                    for (int n = 1; n <= 6; n++) {
                        CHECK.due("say(" + kind + ", " + s + ", " + v + ")", x.say(kind, s, v), n);
                        CHECK.due("told(13)", x.told(13), n);
                    }
                    CHECK.due("say, the seventh", x.say(kind, s, v), Check.FULL);
                    CHECK.due("told(13)", x.told(13), 6);
                    CHECK.due("tear()", x.tear(), 6);
                    CHECK.due("say, behind tear()", x.say(kind, s, v), 1);
                }
            }
        }
    }

    /** AGAINST: "by an unknown w (0 .. 20)": every KIND and SKILL, what each w would be, one less and one more. */
    private static void everyWeight() {
        for (int kind = 0; kind <= 2; kind++) {
            for (int s = 0; s <= 40; s++) {
                for (int v = 0; v <= 99; v++) {
                    weigh(kind, s, v);
                }
            }
        }
    }

    private static int strength(int kind, int s, int w) {
        return kind == 0 ? w + s : kind == 1 ? 2 * w + s / 2 : w * s / 4;
    }

    private static void weigh(int kind, int s, int v) {
        int many = 0;
        int least = Check.NONE;
        int greatest = Check.NONE;
        for (int w = 20; w >= 0; w--) {
            if (strength(kind, s, w) == v) {
                many++;
                least = w;
                greatest = Math.max(greatest, w);
            }
        }
        WeddingReasons x = new WeddingReasons();
        x.say(kind, s, v);
        String by = " by say(" + kind + ", " + s + ", " + v + ")";
        CHECK.due("weights(0)" + by, x.weights(0), many);
        CHECK.due("weights(1)" + by, x.weights(1), least);
        CHECK.due("weights(2)" + by, x.weights(2), greatest);
        CHECK.due("ask()" + by, x.ask(), many > 1 ? 0 : Check.NONE);
        x.say(kind, s, v);
        CHECK.due("weights(0) said twice" + by, x.weights(0), many);
        x.say(kind, s, v == 99 ? 0 : v + 1);
        CHECK.due("weights(0) said otherwise" + by, x.weights(0), 0);
        CHECK.due("weights(1) said otherwise" + by, x.weights(1), Check.NONE);
        CHECK.due("weights(2) said otherwise" + by, x.weights(2), Check.NONE);
        CHECK.due("ask() said otherwise" + by, x.ask(), Check.NONE);
    }

    /** ASK: "NONE: none parts them": two are parted, one is not. */
    private static void askNone() {
        WeddingReasons x = new WeddingReasons();
        CHECK.due("ask() of 21", x.ask(), 0);
        x.say(2, 3, 6);
        CHECK.due("weights(0)", x.weights(0), 2);
        CHECK.due("ask() of 2", x.ask(), 0);
        x.say(0, 0, 9);
        CHECK.due("weights(0)", x.weights(0), 1);
        CHECK.due("ask() of 1", x.ask(), Check.NONE);
        x.say(0, 0, 8);
        CHECK.due("weights(0)", x.weights(0), 0);
        CHECK.due("ask() of 0", x.ask(), Check.NONE);
    }

    /** DRY: every n 0 .. 60, every q 0 .. 100, "a BILLION times q / 100 each (cut)". */
    private static void everyDry() {
        for (int q = 0; q <= 100; q++) {
            WeddingReasons x = new WeddingReasons();
            BigInteger odds = BigInteger.valueOf(1000000000L);
            for (int n = 0; n <= 60; n++) {
                CHECK.due("dry(" + n + ", " + q + ")", x.dry(n, q), odds.intValueExact());
                odds = odds.multiply(BigInteger.valueOf(q)).divide(BigInteger.valueOf(100));
            }
            CHECK.due("dry(61, " + q + ")", x.dry(61, q), Check.OUTSIDE);
            CHECK.due("dry(-1, " + q + ")", x.dry(-1, q), Check.OUTSIDE);
        }
        for (int n = 0; n <= 60; n++) {
            WeddingReasons x = new WeddingReasons();
            CHECK.due("dry(" + n + ", -1)", x.dry(n, -1), Check.OUTSIDE);
            CHECK.due("dry(" + n + ", 101)", x.dry(n, 101), Check.OUTSIDE);
        }
    }

    /** "THE BOOK (15 at most)". */
    private static void bookOf15() {
        WeddingReasons x = Situation.SIX.make();
        for (int n = 1; n <= 15; n++) {
            CHECK.due("write, entry " + n, x.write(n % 6, n == 15 ? 8 : 9), n);
            CHECK.due("told(14)", x.told(14), n);
            CHECK.due("judge()", x.judge(), n == 15 ? 14 : Check.NONE);
        }
        CHECK.due("write, the sixteenth", x.write(0, 9), Check.FULL);
        CHECK.due("told(14)", x.told(14), 15);
        CHECK.due("judge()", x.judge(), 14);
        for (int n = 1; n <= 6; n++) {
            CHECK.due("say, beside a full book", x.say(0, 0, 0), n);
        }
        CHECK.due("tear()", x.tear(), 21);
        CHECK.due("tear() again", x.tear(), 0);
        CHECK.due("write behind tear()", x.write(5, 9), 1);
    }

    /** "WRONG: the first that is otherwise now; NONE." */
    private static void wrongFirst() {
        int[] otherwise = {0, 8, 10, 99};
        for (int a : otherwise) {
            WeddingReasons x = Situation.SIX.make();
            CHECK.due("an empty book", x.judge(), Check.NONE);
            x.write(0, 9);
            x.write(1, a);
            x.write(2, 9);
            CHECK.due("the second of three", x.judge(), 1);
            x.practise(1, a);
            CHECK.due("as it is now", x.judge(), Check.NONE);
            x.practise(0, a);
            CHECK.due("the first of three", x.judge(), 0);
            x.practise(0, 9);
            x.practise(2, a);
            CHECK.due("the last of three", x.judge(), 2);
        }
        WeddingReasons y = Situation.SIX.make();
        y.write(0, 0);
        y.write(0, 99);
        y.practise(0, 0);
        CHECK.due("0 is so", y.judge(), 1);
        y.practise(0, 99);
        CHECK.due("99 is so", y.judge(), 0);
        y.year(1);
        CHECK.due("99 is 99 a year on", y.judge(), 0);
    }

    /** THE SEED: "left over by 2 to the 31", from both ends of 0 .. 2147483647. */
    private static void seedWraps() {
        int[] seeds = {0, 1, 2, 65535, 65536, 1 << 30, (1 << 30) + 1, Integer.MAX_VALUE - 1, Integer.MAX_VALUE};
        for (int seed : seeds) {
            for (int years = 1; years <= 3; years++) {
                WeddingReasons x = Situation.SIX.make();
                CHECK.due("seed(" + seed + ")", x.seed(seed), 0);
                x.drift(years);
                CHECK.due("the seed behind " + years + " years from " + seed, x.seed(0), seedBehind(seed, years));
            }
        }
    }

    /** "a DRAW of 5 REASONS, of 21 is HEARD of them (the REASON first)"; "TAUGHT a DRAW of 5 REASONS": every one comes, none beyond. */
    private static void drawsWithinBounds() {
        int reasonsHeard = 0;
        int reasonsTaught = 0;
        int weightsHeard = 0;
        for (int seed = 0; seed < 4000; seed++) {
            WeddingReasons x = Check.of("d20;c0 7,7,7,7,7;o3 0 0;");
            x.seed(seed * 500009);
            x.drift(1);
            reasonsTaught |= x.objector(0, 2);
            for (int r = 0; r < 5; r++) {
                reasonsHeard |= x.couple(0, r) == 7 ? 0 : 1 << r;
                weightsHeard |= 1 << x.couple(0, r);
            }
            int[] want = drawn(seed * 500009);
            CHECK.due("TAUGHT from the seed " + seed, x.objector(0, 2), want[0] == 2 ? 1 << want[1] : 0);
            for (int r = 0; r < 5; r++) {
                CHECK.due("HEARD from the seed " + seed, x.couple(0, r), want[0] == 1 && want[1] == r ? want[2] : 7);
            }
        }
        CHECK.due("all REASONS are TAUGHT", reasonsTaught, 31);
        CHECK.due("all REASONS are HEARD", reasonsHeard, 31);
        CHECK.due("all of 0 .. 20 is HEARD", weightsHeard, (1 << 21) - 1);
    }

    /** The deed; its first draw behind the couple and the objector; its second. */
    private static int[] drawn(int seed) {
        int[] of = {4, 1, 1, 5, 21};
        int[] draws = new int[5];
        BigInteger now = BigInteger.valueOf(seed);
        for (int i = 0; i < 5; i++) {
            now = next(now);
            draws[i] = now.divide(BigInteger.valueOf(65536)).mod(BigInteger.valueOf(of[i])).intValueExact();
        }
        return new int[] {draws[0], draws[3], draws[4]};
    }

    private static int seedBehind(int seed, int years) {
        BigInteger now = BigInteger.valueOf(seed);
        for (int i = 0; i < years; i++) {
            now = next(now);
            int deed = now.divide(BigInteger.valueOf(65536)).mod(BigInteger.valueOf(4)).intValueExact();
            int more = deed == 1 ? 4 : deed == 2 ? 3 : 2;
            for (int k = 0; k < more; k++) {
                now = next(now);
            }
        }
        return now.intValueExact();
    }

    private static BigInteger next(BigInteger seed) {
        return seed.multiply(BigInteger.valueOf(1103515245)).add(BigInteger.valueOf(12345)).mod(BigInteger.ONE.shiftLeft(31));
    }

    /** "if there are COUPLES and OBJECTORS"; one of each is enough. */
    private static void drawsOfThoseWhoAre() {
        Situation[] none = {Situation.BARE, Situation.COUPLES_ALONE, Situation.OBJECTORS_ALONE};
        for (Situation s : none) {
            WeddingReasons x = s.make();
            x.seed(12345);
            CHECK.due(s.name + ": drift(60)", x.drift(60), 60);
            CHECK.due(s.name + ": no draws", x.seed(0), 12345);
            CHECK.due(s.name + ": as years alone", x.told(9), 0);
        }
        WeddingReasons x = Check.of("d1;c9 0,0,0,0,0;o3 1 0;");
        x.seed(12345);
        x.drift(1);
        CHECK.due("one of each: draws", x.seed(0), seedBehind(12345, 1));
    }

    /** "(16 at most are kept, the oldest are lost)": 15, 16, 17 and 33 deeds. */
    private static void undoneSixteen() {
        int[] deeds = {0, 1, 15, 16, 17, 18, 32, 33};
        for (int n : deeds) {
            WeddingReasons x = Situation.SIX.make();
            for (int i = 1; i <= n; i++) {
                x.practise(0, 20 + i);
                CHECK.due("told(15) behind " + i, x.told(15), Math.min(16, i));
            }
            int kept = Math.min(16, n);
            for (int i = 1; i <= kept; i++) {
                CHECK.due("undo(), " + i + " of " + n, x.undo(), kept - i);
                CHECK.due("told(15)", x.told(15), kept - i);
                CHECK.due("couple(0, 5)", x.couple(0, 5), n == i ? 9 : 20 + n - i);
            }
            CHECK.due("undo(), one too many of " + n, x.undo(), Check.NOT);
            CHECK.due("couple(0, 5)", x.couple(0, 5), n <= 16 ? 9 : 20 + n - 16);
        }
    }

    /** "the latest of stand(), year(), teach(), hear(), practise(), sour(), drift() that was not refused"; "THE SEED stays". */
    private static void undoneEachKind() {
        Situation s = Situation.BUSY;
        for (int deed = 0; deed < 7; deed++) {
            int which = deed;
            String back = s.behind(x -> {
                CHECK.due("deed " + which + " is done", act(x, which) >= 0 ? 1 : 0, 1);
                CHECK.due("told(15)", x.told(15), 8);
                CHECK.due("undo() of deed " + which, x.undo(), 7);
                x.seed(5);
            });
            CHECK.same("all behind undo() of deed " + deed, back, s.whole());
        }
        WeddingReasons x = Situation.PLACE.make();
        x.seed(77);
        x.drift(3);
        x.undo();
        CHECK.due("THE SEED stays as it became", x.seed(0), seedBehind(77, 3));
    }

    private static int act(WeddingReasons x, int deed) {
        return switch (deed) {
            case 0 -> x.stand(0, 3);
            case 1 -> x.year(60);
            case 2 -> x.teach(0, 4, true);
            case 3 -> x.hear(3, 0, 20);
            case 4 -> x.practise(3, 99);
            case 5 -> x.sour(0, 40);
            default -> x.drift(60);
        };
    }

    /** What is no deed of section 2 cannot be undone, and stays; a deed that changes nothing counts. */
    private static void notUndone() {
        WeddingReasons x = Situation.PLACE.make();
        x.feed('d');
        x.say(0, 0, 0);
        x.write(0, 0);
        x.seed(3);
        x.tear();
        CHECK.due("told(15), nothing done", x.told(15), 0);
        CHECK.due("undo()", x.undo(), Check.NOT);
        x.practise(0, 10);
        x.teach(0, 0, true);
        x.hear(0, 0, 3);
        x.sour(0, 4);
        CHECK.due("told(15), as it was", x.told(15), 4);
        x.say(0, 0, 0);
        x.write(0, 0);
        x.feed('1');
        x.seed(4);
        CHECK.due("undo()", x.undo(), 3);
        CHECK.due("told(13) stays", x.told(13), 1);
        CHECK.due("told(14) stays", x.told(14), 1);
        CHECK.due("told(3) stays", x.told(3), 2);
        CHECK.due("the seed stays", x.seed(4), 4);
        CHECK.due("undo() cannot be undone", x.undo(), 2);
    }

    /** "IMAGES 0, 1 keep all of section 2, THE SEED"; "nothing can be undone then". */
    private static void imagesTwo() {
        Situation s = Situation.BUSY;
        for (int i = 0; i < 2; i++) {
            int image = i;
            Situation kept = new Situation("kept " + i, 4, 5, x -> {
                s.redo(x);
                x.keep(image);
            });
            String back = kept.behind(x -> {
                x.drift(60);
                x.sour(4, 3);
                CHECK.due("goBack(" + image + ")", x.goBack(image), 1);
                CHECK.due("told(15)", x.told(15), 0);
                CHECK.due("undo()", x.undo(), Check.NOT);
            });
            CHECK.same("all behind goBack(" + i + ")", back, kept.whole());
        }
        WeddingReasons x = Situation.FULL_PAST.make();
        CHECK.due("told(15)", x.told(15), 16);
        CHECK.due("keep(1)", x.keep(1), 1);
        CHECK.due("told(15), kept", x.told(15), 0);
        x.year(1);
        CHECK.due("goBack(0), not kept", x.goBack(0), Check.NOT);
        CHECK.due("told(15), refused", x.told(15), 1);
        CHECK.due("goBack(1)", x.goBack(1), 1);
        CHECK.due("told(15), gone back", x.told(15), 0);
        CHECK.due("told(4)", x.told(4), 0);
        CHECK.due("goBack(1) again", x.goBack(1), 1);
    }
}
