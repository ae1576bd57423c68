import java.util.Random;

/** Long runs of calls by chance (always the same ones), the class held against the slow model. */
public final class ModelTest {
    private static final int RUNS = 1500;
    private static final int CALLS = 510;
    private static final int[] WILD = {-1, -2, -3, -1000000001, Integer.MIN_VALUE, Integer.MAX_VALUE, 7, 64, 100, 256, 1 << 30};

    private final Random random;
    private final WeddingReasons x = new WeddingReasons();
    private final Model m = new Model();
    private int calls = 0;
    private String wrong = "";

    private ModelTest(long seed) {
        random = new Random(seed);
    }

    public static void main(String[] args) {
        Check check = new Check();
        for (int run = 0; run < RUNS; run++) {
            String wrong = new ModelTest(run).run();
            check.same("run " + run, wrong, "");
        }
        check.end();
    }

    private String run() {
        StringBuilder log = new StringBuilder();
        while (calls < CALLS) {
            if (calls == 0 || random.nextInt(150) == 0 && calls < 265) {
                feedText(log);
            }
            String wrong = call();
            if (!wrong.isEmpty()) {
                return wrong + log;
            }
        }
        return "";
    }

    private int below(int n) {
        return random.nextInt(n);
    }

    /** Most often within 0 .. most, at times far off. */
    private int about(int most) {
        int dice = below(60);
        if (dice == 0) {
            return WILD[below(WILD.length)];
        }
        return dice == 1 ? most + 1 : dice == 2 ? -1 : below(most + 1);
    }

    private int couple() {
        return about(Math.max(0, m.told(1) - 1));
    }

    private int objector() {
        return about(Math.max(0, m.told(2) - 1));
    }

    private String text() {
        StringBuilder b = new StringBuilder("d" + (1 + below(below(3) == 0 ? 20 : 6)) + ";");
        int couples = below(7);
        int objectors = below(7);
        while (couples + objectors > 0) {
            if (below(couples + objectors) < couples) {
                couples--;
                int most = below(2) == 0 ? 5 : 20;
                b.append('c').append(below(61)).append(' ').append(below(most + 1));
                for (int r = 0; r < 4; r++) {
                    b.append(',').append(below(3) == 0 ? below(most + 1) : 0);
                }
            } else {
                objectors--;
                b.append('o').append(below(4)).append(' ').append(below(21)).append(' ').append(below(32));
            }
            b.append(';');
        }
        if (below(6) == 0) {
            String letters = " ,;0123456789dcox";
            for (int i = below(4); i >= 0; i--) {
                int at = below(b.length() + 1);
                char letter = letters.charAt(below(letters.length()));
                if (below(2) == 0) {
                    b.insert(at, letter);
                } else if (at < b.length()) {
                    b.setCharAt(at, letter);
                }
            }
        }
        if (below(12) == 0) {
            b.setLength(below(b.length() + 1));
        }
        return b.toString();
    }

    private void feedText(StringBuilder log) {
        String text = text();
        log.append(" [").append(text).append(']');
        for (int i = 0; i < text.length(); i++) {
            x.feed(text.charAt(i));
            m.feed(text.charAt(i));
        }
        calls += text.length() + 2;
        wrong += same("deanery()", x.deanery(), m.deanery());
        wrong += same("fault()", x.fault(), m.fault());
    }

    private String same(String name, int got, int want) {
        return got == want ? "" : "call " + calls + " " + name + " answered " + got + ", due is " + want + "; ";
    }

    private String call() {
        calls++;
        String before = wrong;
        wrong = "";
        int dice = below(34);
        if (dice < 10) {
            return before + tell(dice);
        }
        return before + (dice < 20 ? act(dice) : dice < 26 ? attempt(dice) : speak(dice));
    }

    private String tell(int dice) {
        int c = couple();
        int o = objector();
        int what = about(15);
        switch (dice) {
            case 0: return same("couple(" + c + ", " + what % 11 + ")", x.couple(c, what % 11), m.couple(c, what % 11));
            case 1: return same("objector(" + o + ", " + what % 5 + ")", x.objector(o, what % 5), m.objector(o, what % 5));
            case 2: return same("box(" + o + ", " + what % 6 + ")", x.box(o, what % 6), m.box(o, what % 6));
            case 3: return same("against(" + o + ", " + c + ", " + what % 3 + ")", x.against(o, c, what % 3), m.against(o, c, what % 3));
            case 4: return same("fault()", x.fault(), m.fault());
            default: return same("told(" + what + ")", x.told(what), m.told(what));
        }
    }

    private String act(int dice) {
        int c = couple();
        int o = objector();
        int n = below(4) == 0 ? about(60) : 1 + below(3);
        int reason = about(4);
        boolean is = below(2) == 0;
        switch (dice) {
            case 10: return same("year(" + n + ")", x.year(n), m.year(n));
            case 11: return same("teach(" + o + ", " + reason + ", " + is + ")", x.teach(o, reason, is), m.teach(o, reason, is));
            case 12: return hear(c, reason, about(20));
            case 13: return practise(c, about(99));
            case 14: return sour(o, about(40));
            case 15: return same("drift(" + n + ")", x.drift(n), m.drift(n));
            case 16: case 17: return same("undo()", x.undo(), m.undo());
            default: return same("stand(" + o + ", " + c + ")", x.stand(o, c), m.stand(o, c));
        }
    }

    private String hear(int c, int reason, int w) {
        return same("hear(" + c + ", " + reason + ", " + w + ")", x.hear(c, reason, w), m.hear(c, reason, w));
    }

    private String practise(int c, int a) {
        return same("practise(" + c + ", " + a + ")", x.practise(c, a), m.practise(c, a));
    }

    private String sour(int o, int s) {
        return same("sour(" + o + ", " + s + ")", x.sour(o, s), m.sour(o, s));
    }

    private String attempt(int dice) {
        int c = couple();
        int o = objector();
        int set = below(3) == 0 ? about(63) : m.told(5) & below(64);
        int who = about((1 << m.told(2)) - 1);
        int what = below(20) == 0 ? about(1) : below(2);
        int n = about(60);
        int q = about(100);
        switch (dice) {
            case 20: return same("soonest(" + c + ", " + o + ")", x.soonest(c, o), m.soonest(c, o));
            case 21: return same("match(" + (c - 2) + ")", x.match(c - 2), m.match(c - 2));
            case 22: return same("match(" + c + ")", x.match(c), m.match(c));
            case 23: return same("rounds(" + o + ", " + set + ", " + what + ")", x.rounds(o, set, what), m.rounds(o, set, what));
            case 24: return same("holds(" + c + ", " + who + ")", x.holds(c, who), m.holds(c, who));
            default: return same("dry(" + n + ", " + q + ")", x.dry(n, q), m.dry(n, q));
        }
    }

    private String weights(int what) {
        calls++;
        return same("weights(" + what + ")", x.weights(what), m.weights(what)) + same("weights(0)", x.weights(0), m.weights(0));
    }

    private String speak(int dice) {
        int kind = about(2);
        int skill = about(below(2) == 0 ? 4 : 40);
        int v = below(2) == 0 || kind < 0 ? about(99) : Math.min(99, Math.max(0, Model.byKind(kind, skill, 7)));
        int c = couple();
        int a = below(3) == 0 ? about(99) : Math.max(0, m.couple(c, 5));
        int i = about(1);
        int seed = random.nextInt() >>> (below(10) == 0 ? 0 : 1);
        switch (dice) {
            case 26: return same("say(" + kind + ", " + skill + ", " + v + ")", x.say(kind, skill, v), m.say(kind, skill, v));
            case 27: return weights(i + 1);
            case 28: return same("ask()", x.ask(), m.ask());
            case 29: return same("write(" + c + ", " + a + ")", x.write(c, a), m.write(c, a));
            case 30: return below(8) == 0 ? same("tear()", x.tear(), m.tear()) : "";
            case 31: return same("judge()", x.judge(), m.judge());
            case 32: return same("seed(" + seed + ")", x.seed(seed), m.seed(seed));
            default: return below(3) > 0 ? same("goBack(" + i + ")", x.goBack(i), m.goBack(i)) : same("keep(" + i + ")", x.keep(i), m.keep(i));
        }
    }
}
