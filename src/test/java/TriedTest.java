/** Promises 18 to 22: what is tried. */
public final class TriedTest {
    private static final Check CHECK = new Check();

    public static void main(String[] args) {
        soonest();
        soonestEdges();
        match();
        matchOfLikeOnes();
        rounds();
        roundsEdges();
        holds();
        dry();
        nothingChanges();
        CHECK.end();
    }

    private static void soonest() {
        WeddingReasons x = Check.of(Check.PLACE);
        int[][] want = {{0, 9, -1, 2, 0}, {1, -1, -1, 0, 3}, {43, 1, -1, 6, 43}, {1, -1, 0, 0, 0}};
        for (int c = 0; c < want.length; c++) {
            for (int o = 0; o < want[c].length; o++) {
                CHECK.due("soonest(" + c + ", " + o + ")", x.soonest(c, o), want[c][o]);
            }
        }
        CHECK.due("soonest(4, 0)", x.soonest(4, 0), Check.UNKNOWN);
        CHECK.due("soonest(-1, 0)", x.soonest(-1, 0), Check.UNKNOWN);
        CHECK.due("soonest(0, 5)", x.soonest(0, 5), Check.UNKNOWN);
        CHECK.due("soonest(0, -1)", x.soonest(0, -1), Check.UNKNOWN);
        x.stand(0, 0);
        CHECK.due("soonest(0, 0), wed", x.soonest(0, 0), Check.NOT);
        CHECK.due("soonest(0, 5), wed", x.soonest(0, 5), Check.UNKNOWN);
        CHECK.due("soonest(1, 0), who stood up", x.soonest(1, 0), 1);
        x.stand(4, 2);
        CHECK.due("soonest(2, 0), home", x.soonest(2, 0), Check.NOT);
        CHECK.due("soonest(3, 4), who stood up, too: as CAN", x.soonest(3, 4), 0);
    }

    private static void soonestEdges() {
        WeddingReasons x = Check.of("d20;c0 20,0,0,0,0;c0 0,0,0,0,0;o0 0 1;o2 20 1;o0 0 0;o3 19 0;");
        CHECK.due("an uncle sours to 40, 60 in all", x.soonest(0, 0), 60);
        CHECK.due("a rival of 100", x.soonest(0, 1), Check.NONE);
        x.hear(0, 0, 19);
        CHECK.due("a rival of 95", x.soonest(0, 1), 95);
        CHECK.due("an uncle of 20 at last", x.soonest(1, 2), 20);
        CHECK.due("a stranger of 19", x.soonest(1, 3), Check.NONE);
        x.sour(3, 40);
        CHECK.due("a stranger of 40", x.soonest(1, 3), 40);
        x.practise(1, 39);
        CHECK.due("a stranger of 40", x.soonest(1, 3), 1);
        x.practise(0, 99);
        x.sour(1, 19);
        x.hear(0, 0, 20);
        CHECK.due("a rival of 95", x.soonest(0, 1), 0);
    }

    private static void match() {
        WeddingReasons x = Check.of(Check.PLACE);
        int[] want = {4, 3, -1, 2};
        for (int c = 0; c < want.length; c++) {
            CHECK.due("match(" + c + ")", x.match(c), want[c]);
        }
        CHECK.due("match(NONE)", x.match(-1), 3);
        CHECK.due("match(-2)", x.match(-2), 52);
        CHECK.due("match(-3)", x.match(-3), Check.UNKNOWN);
        CHECK.due("match(4)", x.match(4), Check.UNKNOWN);
        x.stand(4, 0);
        CHECK.due("match(0), wed", x.match(0), Check.NONE);
        CHECK.due("match(NONE), who waits alone", x.match(-1), 2);
        x.stand(3, 1);
        CHECK.due("match(3)", x.match(3), 2);
        x.sour(2, 0);
        CHECK.due("match(3), who stood up, too", x.match(3), 4);
        CHECK.due("match(-2), who stood up, too", x.match(-2), 17);
    }

    private static void matchOfLikeOnes() {
        WeddingReasons x = Check.of("d1;c9 0,0,0,0,0;c9 0,0,0,0,0;c9 0,0,0,0,0;o3 5 0;o3 5 0;");
        CHECK.due("the first", x.match(0), 0);
        CHECK.due("the first", x.match(1), 1);
        CHECK.due("none last", x.match(2), Check.NONE);
        CHECK.due("many", x.match(-1), 2);
        CHECK.due("together", x.match(-2), 10);
        WeddingReasons y = Check.of("d1;c9 0,0,0,0,0;c4 0,0,0,0,0;o3 4 0;o3 9 0;o3 7 0;");
        CHECK.due("the most strength", y.match(0), 1);
        CHECK.due("the most strength", y.match(1), 0);
        CHECK.due("together", y.match(-2), 13);
        WeddingReasons z = Check.of("d1;c60 20,0,0,0,0;c60 0,0,0,0,0;o3 1 0;o2 12 1;");
        CHECK.due("most wed ahead of strength", z.match(-1), 2);
        CHECK.due("rival against the first", z.match(0), 1);
        CHECK.due("stranger against the second", z.match(1), 0);
        CHECK.due("together", z.match(-2), 61);
        WeddingReasons v = Check.of("d1;c5 0,0,0,0,0;c9 0,0,0,0,0;o3 5 0;o3 9 0;");
        v.sour(1, 10);
        CHECK.due("one of two", v.match(-1), 1);
        CHECK.due("the first couple", v.match(0), 0);
        CHECK.due("none for the second", v.match(1), Check.NONE);
        WeddingReasons w = Check.of("d1;c5 0,0,0,0,0;c9 0,0,0,0,0;o3 9 0;");
        CHECK.due("none for the first", w.match(0), Check.NONE);
        CHECK.due("the second couple", w.match(1), 0);
    }

    private static void rounds() {
        WeddingReasons x = Check.of(Check.PLACE);
        CHECK.due("rounds(0, 0, 0)", x.rounds(0, 0, 0), 0);
        CHECK.due("rounds(0, 0, 1)", x.rounds(0, 0, 1), 0);
        CHECK.due("rounds(4, 15, 0)", x.rounds(4, 15, 0), 3);
        CHECK.due("rounds(4, 15, 1)", x.rounds(4, 15, 1), 1342);
        CHECK.due("rounds(4, 7, 1)", x.rounds(4, 7, 1), 123);
        CHECK.due("rounds(4, 7, 0)", x.rounds(4, 7, 0), 1);
        CHECK.due("rounds(3, 15, 1)", x.rounds(3, 15, 1), 2314);
        CHECK.due("rounds(2, 8, 1)", x.rounds(2, 8, 1), 4);
        CHECK.due("rounds(5, 0, 0)", x.rounds(5, 0, 0), Check.UNKNOWN);
        CHECK.due("rounds(-1, 0, 0)", x.rounds(-1, 0, 0), Check.UNKNOWN);
        CHECK.due("rounds(0, 16, 0)", x.rounds(0, 16, 0), Check.UNKNOWN);
        CHECK.due("rounds(0, -1, 0)", x.rounds(0, -1, 0), Check.UNKNOWN);
        CHECK.due("rounds(0, 16, 2)", x.rounds(0, 16, 2), Check.UNKNOWN);
        CHECK.due("rounds(0, 15, 2)", x.rounds(0, 15, 2), Check.OUTSIDE);
        CHECK.due("rounds(0, 15, -1)", x.rounds(0, 15, -1), Check.OUTSIDE);
        x.stand(0, 0);
        CHECK.due("rounds(0, 15, 0), one is wed", x.rounds(0, 15, 0), Check.NOT);
        CHECK.due("rounds(0, 15, 2), one is wed", x.rounds(0, 15, 2), Check.OUTSIDE);
        CHECK.due("rounds(0, 14, 0), who stood up", x.rounds(0, 14, 0), 2);
        CHECK.due("rounds(0, 14, 1), who stood up", x.rounds(0, 14, 1), 324);
    }

    private static void roundsEdges() {
        WeddingReasons x = Check.of("d1;c5 0,0,0,0,0;c4 0,0,0,0,0;c3 0,0,0,0,0;c2 0,0,0,0,0;c1 0,0,0,0,0;c0 0,0,0,0,0;o3 5 0;o0 0 0;");
        CHECK.due("six", x.rounds(0, 63, 0), Check.NOT);
        CHECK.due("five", x.rounds(0, 31, 0), 5);
        CHECK.due("five", x.rounds(0, 31, 1), 12345);
        CHECK.due("the last five", x.rounds(0, 62, 0), 4);
        CHECK.due("the last five", x.rounds(0, 62, 1), 62345);
        CHECK.due("an uncle, nothing against them", x.rounds(1, 62, 0), 4);
        CHECK.due("an uncle, nothing against them", x.rounds(1, 62, 1), 23456);
        CHECK.due("an uncle alone, now", x.rounds(1, 1, 0), 0);
        CHECK.due("an uncle alone, now", x.rounds(1, 1, 1), 1);
        WeddingReasons y = Check.of("d1;c0 20,0,0,0,0;c0 20,0,0,0,0;c0 20,0,0,0,0;o0 20 1;");
        y.sour(0, 39);
        y.practise(0, 58);
        y.practise(1, 59);
        y.practise(2, 57);
        CHECK.due("40 at most", y.rounds(0, 7, 0), 2);
        CHECK.due("40 at most", y.rounds(0, 7, 1), 231);
    }

    private static void holds() {
        WeddingReasons x = Check.of(Check.PLACE);
        CHECK.due("holds(0, 31)", x.holds(0, 31), 19);
        CHECK.due("holds(0, 0)", x.holds(0, 0), 0);
        CHECK.due("holds(0, 4), less than least", x.holds(0, 4), 0);
        CHECK.due("holds(0, 5)", x.holds(0, 5), 7);
        CHECK.due("holds(1, 23)", x.holds(1, 23), 0);
        CHECK.due("holds(1, 31)", x.holds(1, 31), 12);
        CHECK.due("holds(4, 31)", x.holds(4, 31), Check.UNKNOWN);
        CHECK.due("holds(-1, 31)", x.holds(-1, 31), Check.UNKNOWN);
        CHECK.due("holds(0, 32)", x.holds(0, 32), Check.UNKNOWN);
        CHECK.due("holds(0, -1)", x.holds(0, -1), Check.UNKNOWN);
        x.stand(3, 1);
        CHECK.due("holds(1, 31), wed", x.holds(1, 31), 12);
        x.stand(4, 2);
        CHECK.due("holds(2, 17), home", x.holds(2, 17), 13);
        WeddingReasons y = Check.of("d20;c0 20,0,0,0,0;o2 20 1;o3 20 0;o3 19 0;");
        CHECK.due("more than any answer", y.holds(0, 7), 100);
        CHECK.due("just least", y.holds(0, 6), 20);
        CHECK.due("less than least", y.holds(0, 4), 0);
    }

    private static void dry() {
        WeddingReasons x = new WeddingReasons();
        CHECK.due("dry(0, 0)", x.dry(0, 0), 1000000000);
        CHECK.due("dry(1, 0)", x.dry(1, 0), 0);
        CHECK.due("dry(60, 100)", x.dry(60, 100), 1000000000);
        CHECK.due("dry(1, 99)", x.dry(1, 99), 990000000);
        CHECK.due("dry(5, 33)", x.dry(5, 33), 3913539);
        CHECK.due("dry(7, 7)", x.dry(7, 7), 8);
        CHECK.due("dry(6, 7), cut each time", x.dry(6, 7), 117);
        CHECK.due("dry(60, 99)", x.dry(60, 99), dryByHand(60, 99));
        CHECK.due("dry(60, 1)", x.dry(60, 1), 0);
        CHECK.due("dry(-1, 0)", x.dry(-1, 0), Check.OUTSIDE);
        CHECK.due("dry(61, 0)", x.dry(61, 0), Check.OUTSIDE);
        CHECK.due("dry(0, -1)", x.dry(0, -1), Check.OUTSIDE);
        CHECK.due("dry(0, 101)", x.dry(0, 101), Check.OUTSIDE);
    }

    private static int dryByHand(int n, int q) {
        java.math.BigInteger odds = java.math.BigInteger.valueOf(1000000000L);
        for (int i = 0; i < n; i++) {
            odds = odds.multiply(java.math.BigInteger.valueOf(q)).divide(java.math.BigInteger.valueOf(100));
        }
        return odds.intValueExact();
    }

    private static void nothingChanges() {
        WeddingReasons x = Check.of(Check.PLACE);
        x.stand(0, 0);
        String was = Check.seen(x);
        x.soonest(2, 0);
        x.match(-1);
        x.match(2);
        x.rounds(0, 14, 1);
        x.holds(2, 31);
        x.dry(3, 50);
        x.weights(0);
        x.ask();
        x.judge();
        CHECK.same("nothing changes by what is tried", Check.seen(x), was);
    }
}
