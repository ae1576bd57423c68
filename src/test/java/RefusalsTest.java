import java.util.function.ToIntFunction;

/**
 * "REFUSALS, of several the first in this order: UNKNOWN, OUTSIDE, NOT, FULL. What is refused changes nothing."
 * For each promise: each refusal that it names, each pair that one call can meet at once, and where there is
 * one, the call next to it that is not refused. ArgumentsTest has every argument's bounds.
 */
public final class RefusalsTest {
    private static final Check CHECK = new Check();

    public static void main(String[] args) {
        feed();
        deanery();
        tellings();
        stand();
        yearAndDrift("year", WeddingReasons::year);
        yearAndDrift("drift", WeddingReasons::drift);
        teachAndHear();
        practise();
        sour();
        undo();
        soonest();
        match();
        rounds();
        holds();
        dryWeightsSeed();
        say();
        write();
        images();
        CHECK.end();
    }

    /** Refused, and nothing changed by it, also not when it is asked twice. */
    private static void refused(Situation s, String call, int want, ToIntFunction<WeddingReasons> doing) {
        String label = s.name + ": " + call;
        CHECK.due(label, doing.applyAsInt(s.make()), want);
        CHECK.same("all behind " + label, s.behind(x -> {
            doing.applyAsInt(x);
            doing.applyAsInt(x);
        }), s.whole());
    }

    private static void taken(Situation s, String call, int want, ToIntFunction<WeddingReasons> doing) {
        CHECK.due(s.name + ": " + call, doing.applyAsInt(s.make()), want);
    }

    /** The situation with more done in it. */
    private static Situation with(Situation s, String more, ToIntFunction<WeddingReasons> doing) {
        return new Situation(s.name + ", " + more, s.couples, s.objectors, x -> {
            s.redo(x);
            if (doing.applyAsInt(x) < 0) {
                throw new IllegalStateException(s.name + ", " + more);
            }
        });
    }

    private static Situation of(String name, String text, int couples, int objectors) {
        return new Situation(name, couples, objectors, x -> {
            Check.feedAll(x, text);
            if (x.deanery() != couples) {
                throw new IllegalStateException("a fault in " + text);
            }
        });
    }

    /** Promise 2: OUTSIDE, FULL (240). */
    private static void feed() {
        refused(Situation.BUSY, "feed(-1)", Check.OUTSIDE, x -> x.feed(-1));
        refused(Situation.BUSY, "feed(256)", Check.OUTSIDE, x -> x.feed(256));
        refused(Situation.FULL_TEXT, "feed(0)", Check.FULL, x -> x.feed(0));
        refused(Situation.FULL_TEXT, "feed(59)", Check.FULL, x -> x.feed(59));
        refused(Situation.FULL_TEXT, "feed(255)", Check.FULL, x -> x.feed(255));
        refused(Situation.FULL_TEXT, "feed(-1), full", Check.OUTSIDE, x -> x.feed(-1));
        refused(Situation.FULL_TEXT, "feed(256), full", Check.OUTSIDE, x -> x.feed(256));
    }

    /** Promise 3: "-10 less the number of its FAULT (all else is as it was)", but for THE TEXT and fault(). */
    private static void deanery() {
        Situation late = with(Situation.LATE, "a fault", x -> {
            Check.feedAll(x, "d1;d");
            return x.deanery() == -13 ? 0 : -1;
        });
        CHECK.same("all but fault() behind a fault", withoutFault(late.whole()), withoutFault(Situation.LATE.whole()));
        taken(late, "fault()", 3, WeddingReasons::fault);
        taken(late, "year(1)", Check.FULL, x -> x.year(1));
    }

    private static String withoutFault(String seen) {
        return seen.replaceFirst("\nfault \\S+", "\nfault *");
    }

    /** Promises 5 to 9. */
    private static void tellings() {
        Situation[] all = {Situation.NEW, Situation.BARE, Situation.SIX, Situation.BUSY};
        for (Situation s : all) {
            int c = s.couples;
            int o = s.objectors;
            refused(s, "told(-1)", Check.OUTSIDE, x -> x.told(-1));
            refused(s, "told(16)", Check.OUTSIDE, x -> x.told(16));
            refused(s, "couple(-1, 0)", Check.UNKNOWN, x -> x.couple(-1, 0));
            refused(s, "couple, one too many", Check.UNKNOWN, x -> x.couple(c, 0));
            refused(s, "couple, one too many, and 10", Check.UNKNOWN, x -> x.couple(c, 10));
            refused(s, "objector(-1, 0)", Check.UNKNOWN, x -> x.objector(-1, 0));
            refused(s, "objector, one too many", Check.UNKNOWN, x -> x.objector(o, 0));
            refused(s, "objector, one too many, and -1", Check.UNKNOWN, x -> x.objector(o, -1));
            refused(s, "box(0, 5)", Check.OUTSIDE, x -> x.box(0, 5));
            refused(s, "box(0, -1)", Check.OUTSIDE, x -> x.box(0, -1));
            refused(s, "box(-1, 5), none and outside", Check.OUTSIDE, x -> x.box(-1, 5));
            refused(s, "box(20, -1), none and outside", Check.OUTSIDE, x -> x.box(20, -1));
            taken(s, "box(-1, 0)", Check.NONE, x -> x.box(-1, 0));
            taken(s, "box(20, 4)", Check.NONE, x -> x.box(20, 4));
            refused(s, "against, both unknown, and outside", Check.UNKNOWN, x -> x.against(o, c, 2));
        }
        refused(Situation.BUSY, "couple(3, 10)", Check.OUTSIDE, x -> x.couple(3, 10));
        refused(Situation.BUSY, "couple(3, -1)", Check.OUTSIDE, x -> x.couple(3, -1));
        refused(Situation.BUSY, "objector(4, 4)", Check.OUTSIDE, x -> x.objector(4, 4));
        refused(Situation.BUSY, "objector(4, -1)", Check.OUTSIDE, x -> x.objector(4, -1));
        refused(Situation.BUSY, "against(4, 3, 2)", Check.OUTSIDE, x -> x.against(4, 3, 2));
        refused(Situation.BUSY, "against(4, 3, -1)", Check.OUTSIDE, x -> x.against(4, 3, -1));
        refused(Situation.BUSY, "against(5, 3, 2)", Check.UNKNOWN, x -> x.against(5, 3, 2));
        refused(Situation.BUSY, "against(4, 4, -1)", Check.UNKNOWN, x -> x.against(4, 4, -1));
        refused(Situation.OBJECTORS_ALONE, "against(0, 0, 0)", Check.UNKNOWN, x -> x.against(0, 0, 0));
        refused(Situation.COUPLES_ALONE, "against(0, 0, 0)", Check.UNKNOWN, x -> x.against(0, 0, 0));
    }

    /** Promise 10: UNKNOWN, NOT: they do not wait, it did this YEAR, STRENGTH is less than LEAST. */
    private static void stand() {
        Situation s = Situation.BUSY;
        refused(s, "stand(1, 0), wed", Check.NOT, x -> x.stand(1, 0));
        refused(s, "stand(1, 2), home", Check.NOT, x -> x.stand(1, 2));
        refused(s, "stand(3, 3), it did this year", Check.NOT, x -> x.stand(3, 3));
        refused(s, "stand(3, 1), it did against them this year", Check.NOT, x -> x.stand(3, 1));
        refused(s, "stand(1, 3), less than least", Check.NOT, x -> x.stand(1, 3));
        refused(s, "stand(5, 3)", Check.UNKNOWN, x -> x.stand(5, 3));
        refused(s, "stand(-1, 3)", Check.UNKNOWN, x -> x.stand(-1, 3));
        refused(s, "stand(0, 4)", Check.UNKNOWN, x -> x.stand(0, 4));
        refused(s, "stand(0, -1)", Check.UNKNOWN, x -> x.stand(0, -1));
        refused(s, "stand(5, 0), wed, and no such objector", Check.UNKNOWN, x -> x.stand(5, 0));
        refused(s, "stand(-1, 2), home, and no such objector", Check.UNKNOWN, x -> x.stand(-1, 2));
        refused(s, "stand(3, 4), it did this year, and no such couple", Check.UNKNOWN, x -> x.stand(3, 4));
        refused(s, "stand(3, -1), it did this year, and no such couple", Check.UNKNOWN, x -> x.stand(3, -1));
        refused(s, "stand(5, 4)", Check.UNKNOWN, x -> x.stand(5, 4));
        taken(s, "stand(0, 3)", 1, x -> x.stand(0, 3));
        Situation[] nobody = {Situation.NEW, Situation.BARE, Situation.COUPLES_ALONE, Situation.OBJECTORS_ALONE};
        for (Situation none : nobody) {
            refused(none, "stand(0, 0)", Check.UNKNOWN, x -> x.stand(0, 0));
        }
        Situation home = with(with(s, "practised", x -> x.practise(3, 0)), "home", x -> x.stand(0, 3));
        refused(home, "stand(4, 3), home", Check.NOT, x -> x.stand(4, 3));
        refused(home, "stand(0, 3), home, and it did", Check.NOT, x -> x.stand(0, 3));
    }

    private interface Years {
        int pass(WeddingReasons x, int n);
    }

    /** Promises 11, 16: OUTSIDE, NOT: no DEANERY; FULL: YEARS are above 9000. */
    private static void yearAndDrift(String name, Years years) {
        int[] outside = {Integer.MIN_VALUE, -1, 0, 61, Integer.MAX_VALUE};
        for (int n : outside) {
            refused(Situation.BUSY, name + "(" + n + ")", Check.OUTSIDE, x -> years.pass(x, n));
            refused(Situation.BARE, name + "(" + n + ")", Check.OUTSIDE, x -> years.pass(x, n));
            refused(Situation.NEW, name + "(" + n + "), no deanery", Check.OUTSIDE, x -> years.pass(x, n));
            refused(Situation.LATE, name + "(" + n + "), above 9000", Check.OUTSIDE, x -> years.pass(x, n));
        }
        int[] within = {1, 2, 59, 60};
        for (int n : within) {
            taken(Situation.BARE, name + "(" + n + ")", n, x -> years.pass(x, n));
            taken(Situation.BUSY, name + "(" + n + ")", n + 1, x -> years.pass(x, n));
            refused(Situation.NEW, name + "(" + n + "), no deanery", Check.NOT, x -> years.pass(x, n));
            refused(Situation.LATE, name + "(" + n + "), above 9000", Check.FULL, x -> years.pass(x, n));
        }
        Situation gone = with(Situation.PLACE, "taken away", WeddingReasons::deanery);
        refused(new Situation(gone.name, 0, 0, gone::redo), name + "(1), taken away", Check.NOT, x -> years.pass(x, 1));
        Situation at9000 = new Situation("year 9000", 1, 1, x -> Situation.passYears(x, 0));
        taken(at9000, "told(4)", 9000, x -> x.told(4));
        taken(at9000, name + "(1)", 9001, x -> years.pass(x, 1));
        taken(at9000, name + "(60)", 9060, x -> years.pass(x, 60));
        refused(with(at9000, name + "(60)", x -> years.pass(x, 60)), name + "(1)", Check.FULL, x -> years.pass(x, 1));
        Situation undone = with(Situation.LATE, "undone", WeddingReasons::undo);
        taken(undone, "told(4)", 9000, x -> x.told(4));
        taken(undone, name + "(1)", 9001, x -> years.pass(x, 1));
        taken(undone, name + "(2)", 9002, x -> years.pass(x, 2));
        Situation anew = with(Situation.LATE, "told anew", x -> {
            Check.feedAll(x, "d1;");
            return x.deanery();
        });
        taken(anew, name + "(1)", 1, x -> years.pass(x, 1));
    }

    /** Promises 12, 13: UNKNOWN, OUTSIDE. */
    private static void teachAndHear() {
        Situation s = Situation.BUSY;
        boolean[] both = {true, false};
        for (boolean is : both) {
            refused(s, "teach(5, 0)", Check.UNKNOWN, x -> x.teach(5, 0, is));
            refused(s, "teach(-1, 0)", Check.UNKNOWN, x -> x.teach(-1, 0, is));
            refused(s, "teach(4, 5)", Check.OUTSIDE, x -> x.teach(4, 5, is));
            refused(s, "teach(4, -1)", Check.OUTSIDE, x -> x.teach(4, -1, is));
            refused(s, "teach(4, 32)", Check.OUTSIDE, x -> x.teach(4, 32, is));
            refused(s, "teach(5, 5)", Check.UNKNOWN, x -> x.teach(5, 5, is));
            refused(s, "teach(-1, -1)", Check.UNKNOWN, x -> x.teach(-1, -1, is));
            refused(Situation.COUPLES_ALONE, "teach(0, 0)", Check.UNKNOWN, x -> x.teach(0, 0, is));
        }
        refused(s, "hear(4, 0, 0)", Check.UNKNOWN, x -> x.hear(4, 0, 0));
        refused(s, "hear(-1, 0, 0)", Check.UNKNOWN, x -> x.hear(-1, 0, 0));
        refused(s, "hear(3, 5, 0)", Check.OUTSIDE, x -> x.hear(3, 5, 0));
        refused(s, "hear(3, -1, 0)", Check.OUTSIDE, x -> x.hear(3, -1, 0));
        refused(s, "hear(3, 0, 21)", Check.OUTSIDE, x -> x.hear(3, 0, 21));
        refused(s, "hear(3, 0, -1)", Check.OUTSIDE, x -> x.hear(3, 0, -1));
        refused(s, "hear(3, 5, 21)", Check.OUTSIDE, x -> x.hear(3, 5, 21));
        refused(s, "hear(4, 5, 0)", Check.UNKNOWN, x -> x.hear(4, 5, 0));
        refused(s, "hear(4, 0, 21)", Check.UNKNOWN, x -> x.hear(4, 0, 21));
        refused(s, "hear(-1, -1, -1)", Check.UNKNOWN, x -> x.hear(-1, -1, -1));
        refused(Situation.OBJECTORS_ALONE, "hear(0, 0, 0)", Check.UNKNOWN, x -> x.hear(0, 0, 0));
        taken(s, "hear(0, 4, 20), wed", 6, x -> x.hear(0, 4, 20));
        taken(s, "hear(2, 0, 0), home", 9, x -> x.hear(2, 0, 0));
    }

    /** Promise 14: UNKNOWN, OUTSIDE, NOT: they do not wait. */
    private static void practise() {
        Situation s = Situation.BUSY;
        refused(s, "practise(4, 5)", Check.UNKNOWN, x -> x.practise(4, 5));
        refused(s, "practise(-1, 5)", Check.UNKNOWN, x -> x.practise(-1, 5));
        refused(s, "practise(4, 100)", Check.UNKNOWN, x -> x.practise(4, 100));
        refused(s, "practise(-1, -1)", Check.UNKNOWN, x -> x.practise(-1, -1));
        refused(s, "practise(3, 100)", Check.OUTSIDE, x -> x.practise(3, 100));
        refused(s, "practise(3, -1)", Check.OUTSIDE, x -> x.practise(3, -1));
        refused(s, "practise(0, 5), wed", Check.NOT, x -> x.practise(0, 5));
        refused(s, "practise(0, 10), wed, as it is", Check.NOT, x -> x.practise(0, 10));
        refused(s, "practise(2, 5), home", Check.NOT, x -> x.practise(2, 5));
        refused(s, "practise(0, 100), wed", Check.OUTSIDE, x -> x.practise(0, 100));
        refused(s, "practise(0, -1), wed", Check.OUTSIDE, x -> x.practise(0, -1));
        refused(s, "practise(2, 100), home", Check.OUTSIDE, x -> x.practise(2, 100));
        refused(s, "practise(2, -1), home", Check.OUTSIDE, x -> x.practise(2, -1));
        taken(s, "practise(3, 0)", 29, x -> x.practise(3, 0));
        taken(s, "practise(3, 99)", 29, x -> x.practise(3, 99));
    }

    /** Promise 15: UNKNOWN, OUTSIDE. */
    private static void sour() {
        Situation s = Situation.BUSY;
        refused(s, "sour(5, 5)", Check.UNKNOWN, x -> x.sour(5, 5));
        refused(s, "sour(-1, 5)", Check.UNKNOWN, x -> x.sour(-1, 5));
        refused(s, "sour(4, 41)", Check.OUTSIDE, x -> x.sour(4, 41));
        refused(s, "sour(4, -1)", Check.OUTSIDE, x -> x.sour(4, -1));
        refused(s, "sour(5, 41)", Check.UNKNOWN, x -> x.sour(5, 41));
        refused(s, "sour(-1, -1)", Check.UNKNOWN, x -> x.sour(-1, -1));
        taken(s, "sour(3, 0), it stood up", 12, x -> x.sour(3, 0));
        taken(s, "sour(3, 40), it stood up", 12, x -> x.sour(3, 40));
    }

    /** Promise 17: NOT: none. */
    private static void undo() {
        Situation[] none = {Situation.NEW, Situation.BARE, Situation.PLACE, Situation.SIX,
            with(Situation.BUSY, "kept", x -> x.keep(1)), with(Situation.BUSY, "gone back", x -> x.goBack(0)),
            with(Situation.FULL_PAST, "kept", x -> x.keep(0))};
        for (Situation s : none) {
            refused(s, "undo()", Check.NOT, WeddingReasons::undo);
        }
        Situation anew = new Situation("told anew", 4, 5, x -> {
            Situation.FULL_PAST.redo(x);
            Check.feedAll(x, Check.PLACE);
            x.deanery();
        });
        refused(anew, "undo()", Check.NOT, WeddingReasons::undo);
        taken(Situation.FULL_PAST, "undo()", 15, WeddingReasons::undo);
    }

    /** Promise 18: UNKNOWN, NOT: they do not wait. */
    private static void soonest() {
        Situation s = Situation.BUSY;
        refused(s, "soonest(4, 0)", Check.UNKNOWN, x -> x.soonest(4, 0));
        refused(s, "soonest(-1, 0)", Check.UNKNOWN, x -> x.soonest(-1, 0));
        refused(s, "soonest(3, 5)", Check.UNKNOWN, x -> x.soonest(3, 5));
        refused(s, "soonest(3, -1)", Check.UNKNOWN, x -> x.soonest(3, -1));
        refused(s, "soonest(0, 0), wed", Check.NOT, x -> x.soonest(0, 0));
        refused(s, "soonest(2, 0), home", Check.NOT, x -> x.soonest(2, 0));
        refused(s, "soonest(0, 5), wed, and no such objector", Check.UNKNOWN, x -> x.soonest(0, 5));
        refused(s, "soonest(2, -1), home, and no such objector", Check.UNKNOWN, x -> x.soonest(2, -1));
        refused(Situation.COUPLES_ALONE, "soonest(0, 0)", Check.UNKNOWN, x -> x.soonest(0, 0));
        refused(Situation.OBJECTORS_ALONE, "soonest(0, 0)", Check.UNKNOWN, x -> x.soonest(0, 0));
        taken(s, "soonest(3, 0)", 0, x -> x.soonest(3, 0));
    }

    /** Promise 19: UNKNOWN. */
    private static void match() {
        refused(Situation.NEW, "match(0)", Check.UNKNOWN, x -> x.match(0));
        refused(Situation.NEW, "match(-3)", Check.UNKNOWN, x -> x.match(-3));
        refused(Situation.OBJECTORS_ALONE, "match(0)", Check.UNKNOWN, x -> x.match(0));
        refused(Situation.BUSY, "match(4)", Check.UNKNOWN, x -> x.match(4));
        refused(Situation.BUSY, "match(-3)", Check.UNKNOWN, x -> x.match(-3));
        refused(Situation.SIX, "match(6)", Check.UNKNOWN, x -> x.match(6));
        taken(Situation.SIX, "match(5)", 5, x -> x.match(5));
        taken(Situation.SIX, "match(NONE)", 6, x -> x.match(-1));
        taken(Situation.SIX, "match(-2)", 6, x -> x.match(-2));
        taken(Situation.NEW, "match(NONE)", 0, x -> x.match(-1));
        taken(Situation.NEW, "match(-2)", 0, x -> x.match(-2));
        taken(Situation.BUSY, "match(0), wed", Check.NONE, x -> x.match(0));
        taken(Situation.BUSY, "match(2), home", Check.NONE, x -> x.match(2));
        taken(Situation.COUPLES_ALONE, "match(1)", Check.NONE, x -> x.match(1));
    }

    /** Promise 20: UNKNOWN, OUTSIDE, NOT: one does not wait, more than 5. */
    private static void rounds() {
        Situation s = Situation.BUSY;
        refused(s, "rounds(5, 8, 0)", Check.UNKNOWN, x -> x.rounds(5, 8, 0));
        refused(s, "rounds(-1, 8, 0)", Check.UNKNOWN, x -> x.rounds(-1, 8, 0));
        refused(s, "rounds(0, 16, 0)", Check.UNKNOWN, x -> x.rounds(0, 16, 0));
        refused(s, "rounds(0, 24, 0)", Check.UNKNOWN, x -> x.rounds(0, 24, 0));
        refused(s, "rounds(0, -1, 0)", Check.UNKNOWN, x -> x.rounds(0, -1, 0));
        refused(s, "rounds(0, 8, 2)", Check.OUTSIDE, x -> x.rounds(0, 8, 2));
        refused(s, "rounds(0, 8, -1)", Check.OUTSIDE, x -> x.rounds(0, 8, -1));
        refused(s, "rounds(0, 9, 0), one is wed", Check.NOT, x -> x.rounds(0, 9, 0));
        refused(s, "rounds(0, 12, 0), one is home", Check.NOT, x -> x.rounds(0, 12, 0));
        refused(s, "rounds(0, 1, 1), one is wed", Check.NOT, x -> x.rounds(0, 1, 1));
        refused(s, "rounds(5, 8, 2)", Check.UNKNOWN, x -> x.rounds(5, 8, 2));
        refused(s, "rounds(0, 24, 2)", Check.UNKNOWN, x -> x.rounds(0, 24, 2));
        refused(s, "rounds(5, 9, 0), one is wed", Check.UNKNOWN, x -> x.rounds(5, 9, 0));
        refused(s, "rounds(0, 17, 0), one is wed, one is none", Check.UNKNOWN, x -> x.rounds(0, 17, 0));
        refused(s, "rounds(0, 31, 0), one is wed, one is none", Check.UNKNOWN, x -> x.rounds(0, 31, 0));
        refused(s, "rounds(0, 9, 2), one is wed", Check.OUTSIDE, x -> x.rounds(0, 9, 2));
        refused(s, "rounds(0, 12, -1), one is home", Check.OUTSIDE, x -> x.rounds(0, 12, -1));
        refused(s, "rounds(5, 9, 2), all at once", Check.UNKNOWN, x -> x.rounds(5, 9, 2));
        taken(s, "rounds(0, 8, 0)", 1, x -> x.rounds(0, 8, 0));
        taken(s, "rounds(3, 8, 1), it stood up", 4, x -> x.rounds(3, 8, 1));
        Situation six = Situation.SIX;
        refused(six, "rounds(0, 63, 0), six", Check.NOT, x -> x.rounds(0, 63, 0));
        refused(six, "rounds(0, 63, 1), six", Check.NOT, x -> x.rounds(0, 63, 1));
        refused(six, "rounds(0, 63, 2), six", Check.OUTSIDE, x -> x.rounds(0, 63, 2));
        refused(six, "rounds(6, 63, 0), six", Check.UNKNOWN, x -> x.rounds(6, 63, 0));
        refused(six, "rounds(0, 127, 0), seven", Check.UNKNOWN, x -> x.rounds(0, 127, 0));
        for (int c = 0; c < 6; c++) {
            int five = 63 - (1 << c);
            taken(six, "rounds(0, " + five + ", 0)", 5, x -> x.rounds(0, five, 0));
        }
        taken(six, "rounds(0, 0, 0)", 0, x -> x.rounds(0, 0, 0));
        taken(six, "rounds(0, 0, 1)", 0, x -> x.rounds(0, 0, 1));
        Situation wed = with(six, "one wed", x -> x.stand(0, 5));
        refused(wed, "rounds(1, 63, 0), six, one is wed", Check.NOT, x -> x.rounds(1, 63, 0));
        refused(wed, "rounds(1, 63, 2), six, one is wed", Check.OUTSIDE, x -> x.rounds(1, 63, 2));
        taken(wed, "rounds(1, 31, 0)", 5, x -> x.rounds(1, 31, 0));
        taken(wed, "rounds(0, 31, 1), it stood up", 12345, x -> x.rounds(0, 31, 1));
    }

    /** Promise 21: UNKNOWN. */
    private static void holds() {
        refused(Situation.BUSY, "holds(4, 0)", Check.UNKNOWN, x -> x.holds(4, 0));
        refused(Situation.BUSY, "holds(-1, 0)", Check.UNKNOWN, x -> x.holds(-1, 0));
        refused(Situation.BUSY, "holds(0, 32)", Check.UNKNOWN, x -> x.holds(0, 32));
        refused(Situation.BUSY, "holds(0, 33)", Check.UNKNOWN, x -> x.holds(0, 33));
        refused(Situation.BUSY, "holds(0, -1)", Check.UNKNOWN, x -> x.holds(0, -1));
        refused(Situation.SIX, "holds(5, 64)", Check.UNKNOWN, x -> x.holds(5, 64));
        refused(Situation.COUPLES_ALONE, "holds(0, 1)", Check.UNKNOWN, x -> x.holds(0, 1));
        refused(Situation.NEW, "holds(0, 0)", Check.UNKNOWN, x -> x.holds(0, 0));
        taken(Situation.SIX, "holds(5, 63)", 1, x -> x.holds(5, 63));
        taken(Situation.COUPLES_ALONE, "holds(1, 0)", 0, x -> x.holds(1, 0));
    }

    /** Promises 22, 24, 29: OUTSIDE. */
    private static void dryWeightsSeed() {
        refused(Situation.BUSY, "dry(-1, 50)", Check.OUTSIDE, x -> x.dry(-1, 50));
        refused(Situation.BUSY, "dry(61, 50)", Check.OUTSIDE, x -> x.dry(61, 50));
        refused(Situation.BUSY, "dry(30, -1)", Check.OUTSIDE, x -> x.dry(30, -1));
        refused(Situation.BUSY, "dry(30, 101)", Check.OUTSIDE, x -> x.dry(30, 101));
        refused(Situation.BUSY, "dry(61, 101)", Check.OUTSIDE, x -> x.dry(61, 101));
        refused(Situation.BUSY, "weights(-1)", Check.OUTSIDE, x -> x.weights(-1));
        refused(Situation.BUSY, "weights(3)", Check.OUTSIDE, x -> x.weights(3));
        refused(Situation.BUSY, "seed(-1)", Check.OUTSIDE, x -> x.seed(-1));
        refused(Situation.BUSY, "seed(least)", Check.OUTSIDE, x -> x.seed(Integer.MIN_VALUE));
        taken(Situation.BUSY, "seed(0)", 5, x -> x.seed(0));
        taken(Situation.BUSY, "seed(most)", 5, x -> x.seed(Integer.MAX_VALUE));
    }

    /** Promise 23: OUTSIDE, FULL (6). */
    private static void say() {
        Situation[] all = {Situation.NEW, Situation.BUSY, Situation.FULL_SAID};
        for (Situation s : all) {
            refused(s, "say(-1, 5, 5)", Check.OUTSIDE, x -> x.say(-1, 5, 5));
            refused(s, "say(3, 5, 5)", Check.OUTSIDE, x -> x.say(3, 5, 5));
            refused(s, "say(0, -1, 5)", Check.OUTSIDE, x -> x.say(0, -1, 5));
            refused(s, "say(0, 41, 5)", Check.OUTSIDE, x -> x.say(0, 41, 5));
            refused(s, "say(0, 5, -1)", Check.OUTSIDE, x -> x.say(0, 5, -1));
            refused(s, "say(0, 5, 100)", Check.OUTSIDE, x -> x.say(0, 5, 100));
        }
        refused(Situation.FULL_SAID, "say(0, 5, 5)", Check.FULL, x -> x.say(0, 5, 5));
        refused(Situation.FULL_SAID, "say(2, 40, 99)", Check.FULL, x -> x.say(2, 40, 99));
        taken(Situation.BUSY, "say(2, 40, 99)", 2, x -> x.say(2, 40, 99));
        taken(Situation.BUSY, "say(0, 0, 0)", 2, x -> x.say(0, 0, 0));
    }

    /** Promise 26: UNKNOWN, OUTSIDE, FULL (15). */
    private static void write() {
        Situation[] all = {Situation.COUPLES_ALONE, Situation.BUSY, Situation.FULL_BOOK};
        for (Situation s : all) {
            int c = s.couples;
            refused(s, "write(-1, 5)", Check.UNKNOWN, x -> x.write(-1, 5));
            refused(s, "write, one too many", Check.UNKNOWN, x -> x.write(c, 5));
            refused(s, "write, one too many, and 100", Check.UNKNOWN, x -> x.write(c, 100));
            refused(s, "write(0, 100)", Check.OUTSIDE, x -> x.write(0, 100));
            refused(s, "write(0, -1)", Check.OUTSIDE, x -> x.write(0, -1));
        }
        refused(Situation.FULL_BOOK, "write(0, 10)", Check.FULL, x -> x.write(0, 10));
        refused(Situation.FULL_BOOK, "write(0, 99)", Check.FULL, x -> x.write(0, 99));
        refused(Situation.NEW, "write(0, 5)", Check.UNKNOWN, x -> x.write(0, 5));
        refused(Situation.NEW, "write(0, -1)", Check.UNKNOWN, x -> x.write(0, -1));
        taken(Situation.BUSY, "write(2, 0), home", 3, x -> x.write(2, 0));
        taken(Situation.BUSY, "write(3, 99)", 3, x -> x.write(3, 99));
    }

    /** Promises 30, 31: UNKNOWN, NOT: it was not kept. */
    private static void images() {
        int[] unknown = {Integer.MIN_VALUE, -1, 2, 32, 33, Integer.MAX_VALUE};
        Situation[] all = {Situation.NEW, Situation.PLACE, Situation.BUSY};
        for (Situation s : all) {
            for (int i : unknown) {
                refused(s, "keep(" + i + ")", Check.UNKNOWN, x -> x.keep(i));
                refused(s, "goBack(" + i + ")", Check.UNKNOWN, x -> x.goBack(i));
            }
            refused(s, "goBack(1), not kept", Check.NOT, x -> x.goBack(1));
            taken(s, "keep(0)", 1, x -> x.keep(0));
            taken(s, "keep(1)", 1, x -> x.keep(1));
        }
        refused(Situation.PLACE, "goBack(0), not kept", Check.NOT, x -> x.goBack(0));
        taken(Situation.BUSY, "goBack(0)", 1, x -> x.goBack(0));
        Situation gone = with(Situation.BUSY, "told anew", x -> {
            x.deanery();
            return x.deanery();
        });
        refused(new Situation(gone.name, 0, 0, gone::redo), "goBack(0), gone", Check.NOT, x -> x.goBack(0));
        Situation other = with(Situation.PLACE, "1 kept", x -> x.keep(1));
        refused(other, "goBack(0), the other kept", Check.NOT, x -> x.goBack(0));
        taken(other, "goBack(1)", 1, x -> x.goBack(1));
    }
}
