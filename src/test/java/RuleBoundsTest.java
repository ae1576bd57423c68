/** Sections 2 and 3, each sentence with a bound: the last that is within it, the first beyond, on both sides. */
public final class RuleBoundsTest {
    private static final Check CHECK = new Check();

    public static void main(String[] args) {
        everyStrength();
        reasonOfLikeOnes();
        reasonNone();
        leastOrMore();
        answerOrMore();
        onceAYear();
        boxLatestFirst();
        answer99();
        skill40();
        yearsOneMore();
        taughtHeardPractisedSoured();
        CHECK.end();
    }

    private static WeddingReasons of(String text) {
        return Check.of(text);
    }

    /** The KINDS, every SKILL 0 .. 40, every w 0 .. 20: "w and SKILL", "twice w, and half of SKILL (cut)", "w times SKILL / 4", "SKILL". */
    private static void everyStrength() {
        for (int w = 0; w <= 20; w++) {
            WeddingReasons x = of("d1;c0 0,0,0," + w + ",0;o0 0 8;o1 0 8;o2 0 8;o3 0 8;");
            for (int s = 0; s <= 40; s++) {
                int[] want = {w + s, w + w + (s - s % 2) / 2, (w * s - w * s % 4) / 4, s};
                for (int o = 0; o < 4; o++) {
                    x.sour(o, s);
                    CHECK.due("kind " + o + ", skill " + s + " by " + w, x.against(o, 0, 0), want[o]);
                }
            }
        }
        for (int s = 0; s <= 20; s++) {
            WeddingReasons x = of("d1;c0 20,20,20,20,20;o0 " + s + " 0;o1 " + s + " 0;o2 " + s + " 0;o3 " + s + " 31;");
            int[] want = {s, s / 2, 0, s};
            for (int o = 0; o < 4; o++) {
                CHECK.due("kind " + o + ", skill " + s + " without a reason", x.against(o, 0, 0), want[o]);
                CHECK.due("kind " + o + " without a reason", x.against(o, 0, 1), Check.NONE);
            }
        }
    }

    /** "of those it knows the one of which most is against them; of like ones the least": every SET of REASONS. */
    private static void reasonOfLikeOnes() {
        int[][] weights = {{4, 4, 4, 4, 4}, {0, 1, 0, 1, 0}, {19, 20, 20, 19, 20}, {5, 4, 3, 2, 1}, {0, 0, 0, 0, 0}, {1, 2, 3, 4, 5}};
        for (int set = 0; set < 32; set++) {
            for (int[] w : weights) {
                reasonOfSet(w, set);
            }
        }
    }

    private static void reasonOfSet(int[] w, int set) {
        WeddingReasons x = of("d1;c0 " + w[0] + "," + w[1] + "," + w[2] + "," + w[3] + "," + w[4] + ";o0 0 " + set + ";");
        int most = -1;
        int want = Check.NONE;
        for (int r = 4; r >= 0; r--) {
            if ((set >> r & 1) == 1 && w[r] >= most) {
                most = w[r];
                want = r;
            }
        }
        CHECK.due("the reason of the set " + set, x.against(0, 0, 1), want);
        CHECK.due("the strength of the set " + set, x.against(0, 0, 0), Math.max(0, most));
    }

    /** "NONE: it knows none, or is a stranger." */
    private static void reasonNone() {
        WeddingReasons x = of("d1;c9 5,6,7,8,9;c9 0,0,0,0,0;o0 3 0;o3 3 31;o0 3 1;");
        CHECK.due("it knows none", x.against(0, 0, 1), Check.NONE);
        CHECK.due("a stranger who knows all", x.against(1, 0, 1), Check.NONE);
        CHECK.due("nothing is against them by it", x.against(2, 1, 1), 0);
        x.teach(0, 4, true);
        CHECK.due("it knows one", x.against(0, 0, 1), 4);
        x.teach(0, 4, false);
        CHECK.due("it knows no more", x.against(0, 0, 1), Check.NONE);
        x.stand(0, 0);
        CHECK.due("box: it knows none", x.box(0, 3), Check.NONE);
        x.stand(1, 1);
        CHECK.due("box: NONE for strangers", x.box(0, 3), Check.NONE);
    }

    /** "an objection is of STRENGTH M or more": for each LEAST and KIND, one less and just as much. */
    private static void leastOrMore() {
        for (int least = 1; least <= 20; least++) {
            leastOrMoreBy(0, least - 1, least, least);
            leastOrMoreBy(1, 2 * least - 1, 2 * least, least);
            leastOrMoreBy(2, 2 * least - 1, 2 * least, least);
            leastOrMoreBy(3, least - 1, least, least);
        }
    }

    private static void leastOrMoreBy(int kind, int less, int enough, int least) {
        int w = kind == 2 ? 2 : 0;
        String objector = "o" + kind + " 0 1;";
        WeddingReasons x = of("d" + least + ";c60 " + w + ",0,0,0,0;c60 " + w + ",0,0,0,0;" + objector + objector);
        x.sour(0, less);
        x.sour(1, enough);
        String by = " by a least of " + least + " and kind " + kind;
        boolean uncle = kind == 0;
        CHECK.due("one less" + by, x.against(0, 0, 0), least - 1);
        CHECK.due("as much" + by, x.against(1, 0, 0), least);
        CHECK.due("PLAIN, one stands by" + by, x.told(10), 0);
        CHECK.due("CAN" + by, x.couple(0, 8), 2);
        CHECK.due("FEW" + by, x.told(12), 2);
        CHECK.due("HOLDS, one less" + by, x.holds(0, 1), 0);
        CHECK.due("HOLDS, as much" + by, x.holds(0, 3), least);
        CHECK.due("SOONEST, one less" + by, x.soonest(0, 0), uncle ? 1 : Check.NONE);
        CHECK.due("SOONEST, as much" + by, x.soonest(0, 1), 0);
        CHECK.due("ROUNDS, one less" + by, x.rounds(0, 3, 0), uncle ? 1 : 0);
        CHECK.due("ROUNDS, one less, the figures" + by, x.rounds(0, 3, 1), 12);
        CHECK.due("ROUNDS, as much" + by, x.rounds(1, 3, 0), 2);
        CHECK.due("MATCH" + by, x.match(-1), 1);
        CHECK.due("MATCH together" + by, x.match(-2), least);
        CHECK.due("MATCH for the first" + by, x.match(0), 1);
        CHECK.due("WEAKEST counts who is less than least" + by, x.couple(0, 9), 0);
        CHECK.due("stand, one less" + by, x.stand(0, 0), Check.NOT);
        CHECK.due("stand, as much" + by, x.stand(1, 0), 1);
        CHECK.due("the state of who is wed" + by, x.couple(0, 6), 1);
        CHECK.due("how strong" + by, x.couple(0, 7), least);
        x.sour(1, less);
        CHECK.due("PLAIN, all are less" + by, x.told(10), 2);
        x.sour(0, enough);
        CHECK.due("PLAIN, one is as much" + by, x.told(10), 0);
        x.sour(0, less);
        x.sour(1, enough);
        CHECK.due("PLAIN, the other is as much" + by, x.told(10), 0);
    }

    /** "if ANSWER is STRENGTH or more, they are WED (as STRONG as that), else they go HOME". */
    private static void answerOrMore() {
        for (int strength = 1; strength <= 40; strength++) {
            for (int more = -1; more <= 1; more++) {
                WeddingReasons x = of("d1;c0 0,0,0,0,0;o3 1 0;");
                x.sour(0, strength);
                x.practise(0, strength + more);
                String by = " by " + (strength + more) + " against " + strength;
                boolean wed = more >= 0;
                CHECK.due("CAN" + by, x.couple(0, 8), wed ? 1 : 0);
                CHECK.due("FEW" + by, x.told(12), wed ? 1 : Check.NONE);
                CHECK.due("MATCH" + by, x.match(0), wed ? 0 : Check.NONE);
                CHECK.due("ROUNDS" + by, x.rounds(0, 1, 0), wed ? 1 : 0);
                CHECK.due("SOONEST" + by, x.soonest(0, 0), wed ? 0 : 1);
                CHECK.due("HOLDS" + by, x.holds(0, 1), strength);
                CHECK.due("stand" + by, x.stand(0, 0), wed ? 1 : 0);
                CHECK.due("WED" + by, x.told(6), wed ? 1 : 0);
                CHECK.due("HOME" + by, x.told(7), wed ? 0 : 1);
                CHECK.due("their state" + by, x.couple(0, 6), wed ? 1 : 2);
                CHECK.due("STRONG" + by, x.couple(0, 7), wed ? strength : Check.NONE);
                CHECK.due("FIRMEST" + by, x.told(11), wed ? 0 : Check.NONE);
                CHECK.due("box" + by, x.box(0, 4), strength);
            }
        }
        WeddingReasons x = of("d1;c0 20,20,0,0,0;c0 0,20,0,0,0;c0 0,20,0,0,0;o2 20 1;o2 0 2;");
        x.practise(0, 99);
        CHECK.due("100 against the most answer", x.stand(0, 0), 0);
        x.hear(1, 1, 10);
        x.sour(1, 40);
        x.practise(1, 99);
        CHECK.due("100 against the most answer", x.stand(1, 1), 0);
        x.year(1);
        x.practise(2, 99);
        x.hear(2, 1, 18);
        x.sour(1, 22);
        CHECK.due("99 against the most answer", x.stand(1, 2), 1);
        CHECK.due("how strong", x.couple(2, 7), 99);
    }

    /** "once a YEAR at most"; "all may STAND UP again". */
    private static void onceAYear() {
        WeddingReasons x = Situation.SIX.make();
        for (int o = 0; o < 5; o++) {
            CHECK.due("stand(" + o + ", " + o + ")", x.stand(o, o), 1);
            CHECK.due("told(8)", x.told(8), (2 << o) - 1);
            CHECK.due("objector(" + o + ", 3)", x.objector(o, 3), 1);
            CHECK.due("stand(" + o + ", 5), again", x.stand(o, 5), Check.NOT);
        }
        CHECK.due("CAN, who did this year, too", x.couple(5, 8), 63);
        CHECK.due("MATCH, who stood up this year, too", x.match(5), 0);
        CHECK.due("FEW", x.told(12), 1);
        x.year(1);
        CHECK.due("told(8) a year on", x.told(8), 0);
        CHECK.due("stand(0, 5) a year on", x.stand(0, 5), 1);
        WeddingReasons y = Situation.SIX.make();
        y.stand(0, 0);
        CHECK.due("drift(1)", y.drift(1), 1);
        CHECK.due("told(8) behind drift(1)", y.told(8), 0);
        WeddingReasons z = Situation.SIX.make();
        z.stand(0, 0);
        z.undo();
        CHECK.due("told(8), undone", z.told(8), 0);
        CHECK.due("stand(0, 1), undone", z.stand(0, 1), 1);
    }

    /** "THE BOX keeps the latest 20"; six couples fill it with six at the most. */
    private static void boxLatestFirst() {
        WeddingReasons x = Situation.SIX.make();
        for (int what = 0; what <= 4; what++) {
            CHECK.due("an empty box, " + what, x.box(0, what), Check.NONE);
        }
        for (int n = 1; n <= 6; n++) {
            x.year(n);
            x.sour(n - 1, n + 1);
            x.stand(n - 1, 6 - n);
            CHECK.due("told(9)", x.told(9), n);
            CHECK.due("the last of the box", x.box(n - 1, 4), 2);
            CHECK.due("behind the last", x.box(n, 4), Check.NONE);
            CHECK.due("ahead of the latest", x.box(-1, 4), Check.NONE);
        }
        int years = 21;
        for (int i = 0; i < 6; i++) {
            int[] want = {years, i, 5 - i, Check.NONE, 7 - i};
            for (int what = 0; what < 5; what++) {
                CHECK.due("box(" + i + ", " + what + ")", x.box(i, what), want[what]);
            }
            years -= 6 - i;
        }
        int[] beyond = {6, 7, 19, 20, 21, 64, Integer.MAX_VALUE, -1, Integer.MIN_VALUE};
        for (int i : beyond) {
            CHECK.due("box(" + i + ", 0)", x.box(i, 0), Check.NONE);
        }
    }

    /** "each COUPLE that waits has an ANSWER of 1 more (99 at most)". */
    private static void answer99() {
        for (int a = 0; a <= 99; a++) {
            WeddingReasons x = of("d1;c0 0,0,0,0,0;c60 0,0,0,0,0;c0 0,0,0,0,0;o3 1 0;o3 2 0;");
            x.stand(0, 1);
            x.stand(1, 2);
            x.practise(0, a);
            x.year(1);
            CHECK.due("an answer of " + a + ", a year on", x.couple(0, 5), a < 99 ? a + 1 : 99);
            CHECK.due("wed, a year on", x.couple(1, 5), 60);
            CHECK.due("home, a year on", x.couple(2, 5), 0);
            x.year(60);
            CHECK.due("an answer of " + a + ", 61 years on", x.couple(0, 5), Math.min(99, a + 61));
        }
    }

    /** "each uncle a SKILL of 1 more (40 at most)". */
    private static void skill40() {
        for (int s = 0; s <= 40; s++) {
            WeddingReasons x = of("d1;o0 0 0;o1 0 0;o2 0 0;o3 0 0;");
            for (int o = 0; o < 4; o++) {
                x.sour(o, s);
            }
            x.year(1);
            CHECK.due("an uncle of " + s + ", a year on", x.objector(0, 1), s < 40 ? s + 1 : 40);
            x.year(60);
            CHECK.due("an uncle of " + s + ", 61 years on", x.objector(0, 1), 40);
            for (int o = 1; o < 4; o++) {
                CHECK.due("kind " + o + " of " + s + ", 61 years on", x.objector(o, 1), s);
            }
        }
    }

    /** "YEARS (0 at first) are one more"; "n YEARS (1 .. 60)". */
    private static void yearsOneMore() {
        for (int n = 1; n <= 60; n++) {
            WeddingReasons x = of("d1;c0 0,0,0,0,0;o0 0 0;");
            CHECK.due("told(4) at first", x.told(4), 0);
            CHECK.due("year(" + n + ")", x.year(n), n);
            CHECK.due("told(4)", x.told(4), n);
            CHECK.due("the answer", x.couple(0, 5), n);
            CHECK.due("the uncle", x.objector(0, 1), Math.min(40, n));
            CHECK.due("year(1)", x.year(1), n + 1);
            CHECK.due("undo()", x.undo(), 1);
            CHECK.due("undo(), all of the " + n, x.undo(), 0);
            CHECK.due("told(4)", x.told(4), 0);
            CHECK.due("drift(" + n + ")", x.drift(n), n);
            CHECK.due("undo(), all of the " + n, x.undo(), 0);
            CHECK.due("told(4)", x.told(4), 0);
        }
    }

    /** TAUGHT 0 .. 4, HEARD 0 .. 20 by 0 .. 4, PRACTISED 0 .. 99, SOURED 0 .. 40: all of them, and nothing else. */
    private static void taughtHeardPractisedSoured() {
        for (int r = 0; r <= 4; r++) {
            WeddingReasons x = of("d1;c9 9,9,9,9,9;c9 9,9,9,9,9;o0 1 0;o0 1 31;o3 1 0;");
            CHECK.due("teach(0, " + r + ", true)", x.teach(0, r, true), 1 << r);
            CHECK.due("teach(0, " + r + ", true) again", x.teach(0, r, true), 1 << r);
            CHECK.due("teach(1, " + r + ", true)", x.teach(1, r, true), 31);
            CHECK.due("teach(1, " + r + ", false)", x.teach(1, r, false), 31 - (1 << r));
            CHECK.due("teach(1, " + r + ", false) again", x.teach(1, r, false), 31 - (1 << r));
            CHECK.due("teach(2, " + r + ", false)", x.teach(2, r, false), 0);
            CHECK.due("objector(0, 2)", x.objector(0, 2), 1 << r);
            for (int w = 0; w <= 20; w++) {
                CHECK.due("hear(1, " + r + ", " + w + ")", x.hear(1, r, w), w == 0 ? 9 : w - 1);
                CHECK.due("couple(1, " + r + ")", x.couple(1, r), w);
            }
            for (int other = 0; other <= 4; other++) {
                CHECK.due("couple(0, " + other + ")", x.couple(0, other), 9);
                CHECK.due("couple(1, " + other + ")", x.couple(1, other), other == r ? 20 : 9);
            }
        }
        WeddingReasons x = of("d1;c9 9,9,9,9,9;c9 9,9,9,9,9;o0 1 0;o0 1 31;o3 1 0;");
        for (int a = 0; a <= 99; a++) {
            CHECK.due("practise(1, " + a + ")", x.practise(1, a), a == 0 ? 9 : a - 1);
        }
        for (int s = 0; s <= 40; s++) {
            CHECK.due("sour(2, " + s + ")", x.sour(2, s), s == 0 ? 1 : s - 1);
        }
        CHECK.due("couple(0, 5)", x.couple(0, 5), 9);
        CHECK.due("couple(1, 5)", x.couple(1, 5), 99);
        CHECK.due("objector(1, 1)", x.objector(1, 1), 1);
        CHECK.due("objector(2, 1)", x.objector(2, 1), 40);
    }
}
