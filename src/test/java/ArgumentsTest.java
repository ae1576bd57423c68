import java.util.ArrayList;
import java.util.Arrays;
import java.util.List;
import java.util.TreeSet;

/**
 * Every argument of every call at its last number within its bounds and at the first beyond, and far off;
 * all of them together, so that of UNKNOWN and OUTSIDE the first is answered; and nothing changed by it.
 */
public final class ArgumentsTest {
    private static final Check CHECK = new Check();
    private static final int[] FAR = {Integer.MIN_VALUE, Integer.MIN_VALUE + 1, Check.FULL, Check.UNKNOWN, -65536, -256, -3, -2, -1,
        0, 1, 5, 6, 7, 32, 33, 64, 256, 65536, 1 << 30, Integer.MAX_VALUE};
    /** For calls of three arguments, which have many more ways to be tried. */
    private static final int[] FEWER_FAR = {Integer.MIN_VALUE, -1, 0, 6, 32, Integer.MAX_VALUE};

    private enum Kind { COUPLE, OBJECTOR, COUPLES, OBJECTORS, IMAGE, MATCHED, NUMBER, ANY }

    private record Arg(Kind kind, int low, int high) {
        private boolean isSetOf(int v, int n) {
            return v == 0 || v > 0 && Integer.toBinaryString(v).length() <= n;
        }

        boolean isUnknown(int v, Situation s) {
            return switch (kind) {
                case COUPLE -> v < 0 || v >= s.couples;
                case OBJECTOR -> v < 0 || v >= s.objectors;
                case COUPLES -> !isSetOf(v, s.couples);
                case OBJECTORS -> !isSetOf(v, s.objectors);
                case IMAGE -> v != 0 && v != 1;
                case MATCHED -> v < -2 || v >= s.couples;
                default -> false;
            };
        }

        boolean isOutside(int v) {
            return kind == Kind.NUMBER && (v < low || v > high);
        }

        List<Integer> tries(Situation s, int[] fars) {
            TreeSet<Integer> tries = new TreeSet<>();
            for (int far : fars) {
                tries.add(far);
            }
            int n = kind == Kind.OBJECTOR || kind == Kind.OBJECTORS ? s.objectors : s.couples;
            switch (kind) {
                case COUPLE, OBJECTOR, MATCHED -> tries.addAll(List.of(n - 1, n));
                case COUPLES, OBJECTORS -> tries.addAll(List.of((1 << n) - 1, 1 << n, (1 << n) + 1, 63, 127));
                default -> tries.addAll(List.of(low, high));
            }
            if (kind == Kind.NUMBER && low > Integer.MIN_VALUE && high < Integer.MAX_VALUE) {
                tries.addAll(List.of(low - 1, low + 1, high - 1, high + 1));
            }
            return new ArrayList<>(tries);
        }
    }

    private interface Doing {
        int on(WeddingReasons x, int[] a);
    }

    private record Call(String name, Doing doing, Arg... args) { }

    private static final Arg COUPLE = new Arg(Kind.COUPLE, 0, 0);
    private static final Arg OBJECTOR = new Arg(Kind.OBJECTOR, 0, 0);
    private static final Arg COUPLES = new Arg(Kind.COUPLES, 0, 0);
    private static final Arg OBJECTORS = new Arg(Kind.OBJECTORS, 0, 0);
    private static final Arg IMAGE = new Arg(Kind.IMAGE, 0, 0);
    private static final Arg MATCHED = new Arg(Kind.MATCHED, 0, 0);
    private static final Arg ANY = new Arg(Kind.ANY, 0, 0);

    private static Arg number(int low, int high) {
        return new Arg(Kind.NUMBER, low, high);
    }

    /** The document's face, with the bounds as each promise or term names them. */
    private static final List<Call> CALLS = List.of(
            new Call("feed", (x, a) -> x.feed(a[0]), number(0, 255)),
            new Call("told", (x, a) -> x.told(a[0]), number(0, 15)),
            new Call("couple", (x, a) -> x.couple(a[0], a[1]), COUPLE, number(0, 9)),
            new Call("objector", (x, a) -> x.objector(a[0], a[1]), OBJECTOR, number(0, 3)),
            new Call("box", (x, a) -> x.box(a[0], a[1]), ANY, number(0, 4)),
            new Call("against", (x, a) -> x.against(a[0], a[1], a[2]), OBJECTOR, COUPLE, number(0, 1)),
            new Call("stand", (x, a) -> x.stand(a[0], a[1]), OBJECTOR, COUPLE),
            new Call("year", (x, a) -> x.year(a[0]), number(1, 60)),
            new Call("teach, true", (x, a) -> x.teach(a[0], a[1], true), OBJECTOR, number(0, 4)),
            new Call("teach, false", (x, a) -> x.teach(a[0], a[1], false), OBJECTOR, number(0, 4)),
            new Call("hear", (x, a) -> x.hear(a[0], a[1], a[2]), COUPLE, number(0, 4), number(0, 20)),
            new Call("practise", (x, a) -> x.practise(a[0], a[1]), COUPLE, number(0, 99)),
            new Call("sour", (x, a) -> x.sour(a[0], a[1]), OBJECTOR, number(0, 40)),
            new Call("drift", (x, a) -> x.drift(a[0]), number(1, 60)),
            new Call("soonest", (x, a) -> x.soonest(a[0], a[1]), COUPLE, OBJECTOR),
            new Call("match", (x, a) -> x.match(a[0]), MATCHED),
            new Call("rounds", (x, a) -> x.rounds(a[0], a[1], a[2]), OBJECTOR, COUPLES, number(0, 1)),
            new Call("holds", (x, a) -> x.holds(a[0], a[1]), COUPLE, OBJECTORS),
            new Call("dry", (x, a) -> x.dry(a[0], a[1]), number(0, 60), number(0, 100)),
            new Call("say", (x, a) -> x.say(a[0], a[1], a[2]), number(0, 2), number(0, 40), number(0, 99)),
            new Call("weights", (x, a) -> x.weights(a[0]), number(0, 2)),
            new Call("write", (x, a) -> x.write(a[0], a[1]), COUPLE, number(0, 99)),
            new Call("seed", (x, a) -> x.seed(a[0]), number(0, Integer.MAX_VALUE)),
            new Call("keep", (x, a) -> x.keep(a[0]), IMAGE),
            new Call("goBack", (x, a) -> x.goBack(a[0]), IMAGE));

    private static final List<Situation> SITUATIONS = List.of(Situation.NEW, Situation.BARE, Situation.COUPLES_ALONE,
            Situation.OBJECTORS_ALONE, Situation.PLACE, Situation.SIX, Situation.BUSY, Situation.LATE, Situation.FULL_TEXT,
            Situation.FULL_SAID, Situation.FULL_BOOK, Situation.FULL_PAST);

    public static void main(String[] args) {
        for (Call call : CALLS) {
            for (Situation s : SITUATIONS) {
                tryAll(call, s, new int[call.args().length], 0);
            }
        }
        CHECK.end();
    }

    private static void tryAll(Call call, Situation s, int[] values, int at) {
        if (at == values.length) {
            tryOne(call, s, values);
            return;
        }
        for (int v : call.args()[at].tries(s, values.length < 3 ? FAR : FEWER_FAR)) {
            values[at] = v;
            tryAll(call, s, values, at + 1);
        }
    }

    /** 0: the arguments are none to refuse. */
    private static int refusal(Call call, Situation s, int[] values) {
        int refusal = 0;
        for (int i = 0; i < values.length; i++) {
            if (call.args()[i].isUnknown(values[i], s)) {
                return Check.UNKNOWN;
            }
            refusal = call.args()[i].isOutside(values[i]) ? Check.OUTSIDE : refusal;
        }
        return refusal;
    }

    private static void tryOne(Call call, Situation s, int[] values) {
        int want = refusal(call, s, values);
        WeddingReasons x = s.make();
        int got = call.doing().on(x, values);
        String label = s.name + ": " + call.name() + Arrays.toString(values);
        if (want == 0) {
            boolean refused = got == Check.UNKNOWN || got == Check.OUTSIDE;
            CHECK.due(label + " is refused for its arguments (" + got + ")", refused ? 1 : 0, 0);
            return;
        }
        CHECK.due(label, got, want);
        CHECK.same("all behind " + label, Check.seen(x), s.seen());
        if (isNearby(values)) {
            CHECK.same("all of all behind " + label, s.behind(y -> call.doing().on(y, values)), s.whole());
        }
    }

    /** Looking at all of all is slow, so it is done for the numbers next to the bounds alone. */
    private static boolean isNearby(int[] values) {
        for (int v : values) {
            if (v < -3 || v > 300 || v == 32 || v == 33 || v == 64) {
                return false;
            }
        }
        return true;
    }
}
