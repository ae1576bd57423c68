import java.util.ArrayDeque;
import java.util.ArrayList;
import java.util.Arrays;
import java.util.Deque;
import java.util.List;
import java.util.function.IntBinaryOperator;

/** The document once more, slow and by trying everything, to hold the class against. */
final class Model {
    static final int NONE = -1, UNKNOWN = -1000000001, OUTSIDE = -1000000002, NOT = -1000000003, FULL = -1000000004;

    private static final class Pair {
        int[] w = new int[5];
        int answer, fate, strong;

        Pair copy() {
            Pair p = new Pair();
            p.w = w.clone();
            p.answer = answer;
            p.fate = fate;
            p.strong = strong;
            return p;
        }
    }

    private static final class Person {
        int kind, skill, knows;
        boolean stood;

        Person copy() {
            Person p = new Person();
            p.kind = kind;
            p.skill = skill;
            p.knows = knows;
            p.stood = stood;
            return p;
        }
    }

    private static final class World {
        int least, years;
        List<Pair> pairs = new ArrayList<>();
        List<Person> people = new ArrayList<>();
        List<int[]> box = new ArrayList<>();

        World copy() {
            World v = new World();
            v.least = least;
            v.years = years;
            pairs.forEach(p -> v.pairs.add(p.copy()));
            people.forEach(p -> v.people.add(p.copy()));
            v.box.addAll(box);
            return v;
        }

        int reason(int o, int c) {
            Person p = people.get(o);
            int best = NONE;
            for (int r = 4; r >= 0; r--) {
                if (p.kind != 3 && (p.knows & 1 << r) != 0
                        && (best == NONE || pairs.get(c).w[r] >= pairs.get(c).w[best])) {
                    best = r;
                }
            }
            return best;
        }

        int strength(int o, int c) {
            int r = reason(o, c);
            return byKind(people.get(o).kind, people.get(o).skill, r == NONE ? 0 : pairs.get(c).w[r]);
        }

        boolean objects(int o, int c) {
            return strength(o, c) >= least;
        }

        /** -1: it cannot stand up; 0: home; 1: wed. */
        int stand(int o, int c) {
            Pair pair = pairs.get(c);
            if (pair.fate != 0 || people.get(o).stood || !objects(o, c)) {
                return -1;
            }
            int s = strength(o, c);
            pair.fate = pair.answer >= s ? 1 : 2;
            pair.strong = s;
            people.get(o).stood = true;
            box.add(0, new int[] {years, c, o, reason(o, c), s});
            if (box.size() > 20) {
                box.remove(20);
            }
            return pair.fate == 1 ? 1 : 0;
        }

        void year() {
            for (Pair p : pairs) {
                if (p.fate == 0 && p.answer < 99) {
                    p.answer++;
                }
            }
            for (Person p : people) {
                if (p.kind == 0 && p.skill < 40) {
                    p.skill++;
                }
                p.stood = false;
            }
            years++;
        }

        /** Whether they would be wed now, whoever stood up this year. */
        boolean can(int o, int c) {
            World v = copy();
            v.people.get(o).stood = false;
            return v.stand(o, c) == 1;
        }
    }

    private StringBuilder text = new StringBuilder();
    private World w = new World();
    private int faultAt = NONE;
    private long seed = 0;
    private final Deque<World> undo = new ArrayDeque<>();
    private final World[] images = new World[2];
    private final long[] seeds = new long[2];
    private final List<int[]> said = new ArrayList<>();
    private final List<int[]> book = new ArrayList<>();

    static int byKind(int kind, int skill, int w) {
        return kind == 0 ? w + skill : kind == 1 ? 2 * w + skill / 2 : kind == 2 ? w * skill / 4 : skill;
    }

    int feed(int letter) {
        if (letter < 0 || letter > 255) {
            return OUTSIDE;
        }
        if (text.length() == 240) {
            return FULL;
        }
        text.append((char) letter);
        return text.length();
    }

    /** The templates of the clauses: n low high is a number; else the letter that is due. */
    private static final String COUPLE = "n0-60 n0-20 , n0-20 , n0-20 , n0-20 , n0-20 ;";

    private int[] parse(String t, World v) {
        int i = 0;
        while (true) {
            while (i < t.length() && t.charAt(i) == ' ') {
                i++;
            }
            if (i == t.length()) {
                return null;
            }
            char word = t.charAt(i);
            if ("dco".indexOf(word) < 0 || v.least == 0 && word != 'd') {
                return new int[] {1, i};
            }
            if (word == 'd' && v.least > 0 || word == 'c' && v.pairs.size() == 6 || word == 'o' && v.people.size() == 6) {
                return new int[] {3, i};
            }
            i++;
            List<Integer> numbers = new ArrayList<>();
            String template = word == 'd' ? "n1-20 ;" : word == 'c' ? COUPLE : "n0-3 n0-20 n0-31 ;";
            for (String slot : template.split(" ")) {
                while (i < t.length() && t.charAt(i) == ' ') {
                    i++;
                }
                if (slot.charAt(0) != 'n') {
                    if (i == t.length() || t.charAt(i) != slot.charAt(0)) {
                        return new int[] {1, i};
                    }
                    i++;
                    continue;
                }
                String rest = t.substring(i);
                String figures = rest.replaceFirst("(?s)[^0-9].*", "");
                if (figures.isEmpty()) {
                    return new int[] {1, i};
                }
                String[] bounds = slot.substring(1).split("-");
                if (figures.length() > 3 || Integer.parseInt(figures) < Integer.parseInt(bounds[0])
                        || Integer.parseInt(figures) > Integer.parseInt(bounds[1])) {
                    return new int[] {2, i};
                }
                numbers.add(Integer.parseInt(figures));
                i += figures.length();
            }
            if (word == 'd') {
                v.least = numbers.get(0);
            } else if (word == 'c') {
                Pair p = new Pair();
                p.answer = numbers.get(0);
                for (int r = 0; r < 5; r++) {
                    p.w[r] = numbers.get(r + 1);
                }
                v.pairs.add(p);
            } else {
                Person p = new Person();
                p.kind = numbers.get(0);
                p.skill = numbers.get(1);
                p.knows = numbers.get(2);
                v.people.add(p);
            }
        }
    }

    int deanery() {
        World v = new World();
        int[] fault = parse(text.toString(), v);
        text = new StringBuilder();
        faultAt = fault == null ? NONE : fault[1];
        if (fault != null) {
            return -10 - fault[0];
        }
        w = v;
        undo.clear();
        Arrays.fill(images, null);
        said.clear();
        book.clear();
        return w.pairs.size();
    }

    int fault() {
        return faultAt;
    }

    private boolean noCouple(int c) {
        return c < 0 || c >= w.pairs.size();
    }

    private boolean noObjector(int o) {
        return o < 0 || o >= w.people.size();
    }

    private int setOf(int fate) {
        int set = 0;
        for (int c = 0; c < w.pairs.size(); c++) {
            set += w.pairs.get(c).fate == fate ? 1 << c : 0;
        }
        return set;
    }

    int told(int what) {
        return switch (what) {
            case 0 -> w.least;
            case 1 -> w.pairs.size();
            case 2 -> w.people.size();
            case 3 -> text.length();
            case 4 -> w.years;
            case 5 -> setOf(0);
            case 6 -> setOf(1);
            case 7 -> setOf(2);
            case 8 -> stood();
            case 9 -> w.box.size();
            case 10 -> plain();
            case 11 -> firmest();
            case 12 -> few();
            case 13 -> said.size();
            case 14 -> book.size();
            case 15 -> undo.size();
            default -> OUTSIDE;
        };
    }

    private int stood() {
        int set = 0;
        for (int o = 0; o < w.people.size(); o++) {
            set += w.people.get(o).stood ? 1 << o : 0;
        }
        return set;
    }

    private int plain() {
        int set = 0;
        for (int c = 0; c < w.pairs.size(); c++) {
            boolean any = w.pairs.get(c).fate != 0;
            for (int o = 0; o < w.people.size(); o++) {
                any |= w.objects(o, c);
            }
            set += any ? 0 : 1 << c;
        }
        return set;
    }

    private int firmest() {
        int best = NONE;
        int most = -1;
        for (int c = 0; c < w.pairs.size(); c++) {
            Pair p = w.pairs.get(c);
            if (p.fate == 1 && p.strong > most) {
                most = p.strong;
                best = c;
            }
        }
        return best;
    }

    private int canSet(int c) {
        int set = 0;
        for (int o = 0; o < w.people.size(); o++) {
            set += w.can(o, c) ? 1 << o : 0;
        }
        return set;
    }

    private int few() {
        for (int size = 0; size <= w.people.size(); size++) {
            for (int set = 0; set < 64; set++) {
                if (set >> w.people.size() != 0 || Integer.bitCount(set) != size) {
                    continue;
                }
                boolean all = true;
                for (int c = 0; c < w.pairs.size(); c++) {
                    all &= w.pairs.get(c).fate != 0 || (canSet(c) & set) != 0;
                }
                if (all) {
                    return set;
                }
            }
        }
        return NONE;
    }

    int couple(int c, int what) {
        if (noCouple(c)) {
            return UNKNOWN;
        }
        Pair p = w.pairs.get(c);
        return switch (what) {
            case 0, 1, 2, 3, 4 -> p.w[what];
            case 5 -> p.answer;
            case 6 -> p.fate;
            case 7 -> p.fate == 1 ? p.strong : NONE;
            case 8 -> canSet(c);
            case 9 -> weakest(c);
            default -> OUTSIDE;
        };
    }

    private int weakest(int c) {
        int best = NONE;
        int least = Integer.MAX_VALUE;
        for (int o = 0; o < w.people.size(); o++) {
            if (w.strength(o, c) < least) {
                least = w.strength(o, c);
                best = o;
            }
        }
        return best;
    }

    int objector(int o, int what) {
        if (noObjector(o)) {
            return UNKNOWN;
        }
        Person p = w.people.get(o);
        return switch (what) {
            case 0 -> p.kind;
            case 1 -> p.skill;
            case 2 -> p.knows;
            case 3 -> p.stood ? 1 : 0;
            default -> OUTSIDE;
        };
    }

    int box(int i, int what) {
        if (what < 0 || what > 4) {
            return OUTSIDE;
        }
        return i < 0 || i >= w.box.size() ? NONE : w.box.get(i)[what];
    }

    int against(int o, int c, int what) {
        if (noObjector(o) || noCouple(c)) {
            return UNKNOWN;
        }
        return what == 0 ? w.strength(o, c) : what == 1 ? w.reason(o, c) : OUTSIDE;
    }

    private void push(World was) {
        undo.addLast(was);
        if (undo.size() > 16) {
            undo.removeFirst();
        }
    }

    int stand(int o, int c) {
        if (noObjector(o) || noCouple(c)) {
            return UNKNOWN;
        }
        World was = w.copy();
        int answer = w.stand(o, c);
        if (answer < 0) {
            return NOT;
        }
        push(was);
        return answer;
    }

    int year(int n) {
        return years(n, false);
    }

    int drift(int n) {
        return years(n, true);
    }

    private int years(int n, boolean draws) {
        if (n < 1 || n > 60) {
            return OUTSIDE;
        }
        if (w.least == 0) {
            return NOT;
        }
        if (w.years > 9000) {
            return FULL;
        }
        push(w.copy());
        for (int i = 0; i < n; i++) {
            if (draws && !w.pairs.isEmpty() && !w.people.isEmpty()) {
                chance();
            }
            w.year();
        }
        return w.years;
    }

    private int draw(int n) {
        seed = Math.floorMod(seed * 1103515245L + 12345L, 1L << 31);
        return (int) (seed / 65536 % n);
    }

    private void chance() {
        int deed = draw(4);
        int c = draw(w.pairs.size());
        int o = draw(w.people.size());
        if (deed == 0) {
            w.stand(o, c);
        } else if (deed == 1) {
            int r = draw(5);
            w.pairs.get(c).w[r] = draw(21);
        } else if (deed == 2) {
            w.people.get(o).knows |= 1 << draw(5);
        }
    }

    int teach(int o, int reason, boolean is) {
        if (noObjector(o)) {
            return UNKNOWN;
        }
        if (reason < 0 || reason > 4) {
            return OUTSIDE;
        }
        push(w.copy());
        Person p = w.people.get(o);
        p.knows |= 1 << reason;
        if (!is) {
            p.knows -= 1 << reason;
        }
        return p.knows;
    }

    int hear(int c, int reason, int much) {
        if (noCouple(c)) {
            return UNKNOWN;
        }
        if (reason < 0 || reason > 4 || much < 0 || much > 20) {
            return OUTSIDE;
        }
        push(w.copy());
        int was = w.pairs.get(c).w[reason];
        w.pairs.get(c).w[reason] = much;
        return was;
    }

    int practise(int c, int a) {
        if (noCouple(c)) {
            return UNKNOWN;
        }
        if (a < 0 || a > 99) {
            return OUTSIDE;
        }
        if (w.pairs.get(c).fate != 0) {
            return NOT;
        }
        push(w.copy());
        int was = w.pairs.get(c).answer;
        w.pairs.get(c).answer = a;
        return was;
    }

    int sour(int o, int s) {
        if (noObjector(o)) {
            return UNKNOWN;
        }
        if (s < 0 || s > 40) {
            return OUTSIDE;
        }
        push(w.copy());
        int was = w.people.get(o).skill;
        w.people.get(o).skill = s;
        return was;
    }

    int undo() {
        if (undo.isEmpty()) {
            return NOT;
        }
        w = undo.removeLast();
        return undo.size();
    }

    int soonest(int c, int o) {
        if (noCouple(c) || noObjector(o)) {
            return UNKNOWN;
        }
        if (w.pairs.get(c).fate != 0) {
            return NOT;
        }
        World v = w.copy();
        for (int years = 0; years <= 200; years++) {
            if (v.can(o, c)) {
                return years;
            }
            v.year();
        }
        return NONE;
    }

    private int[] chosen;
    private int[] best;

    private int worth(int[] of) {
        int worth = 0;
        for (int c = 0; c < of.length; c++) {
            worth += of[c] == 6 ? 0 : 100000 + w.strength(of[c], c);
        }
        return worth;
    }

    /** Every choice in the order of the document, 6 being none: so only a better one takes its place. */
    private void choose(int c, boolean[][] can, int taken) {
        if (c == chosen.length) {
            if (best == null || worth(chosen) > worth(best)) {
                best = chosen.clone();
            }
            return;
        }
        for (int o = 0; o <= 6; o++) {
            if (o == 6 || can[c][o] && (taken >> o & 1) == 0) {
                chosen[c] = o;
                choose(c + 1, can, o == 6 ? taken : taken | 1 << o);
            }
        }
    }

    int match(int c) {
        if (c < -2 || c >= w.pairs.size()) {
            return UNKNOWN;
        }
        boolean[][] can = new boolean[w.pairs.size()][6];
        for (int d = 0; d < w.pairs.size(); d++) {
            for (int o = 0; o < w.people.size(); o++) {
                can[d][o] = w.can(o, d);
            }
        }
        chosen = new int[w.pairs.size()];
        best = null;
        choose(0, can, 0);
        if (c == -1) {
            return worth(best) / 100000;
        }
        return c == -2 ? worth(best) % 100000 : best[c] == 6 ? NONE : best[c];
    }

    private void orders(int o, int set, int figures, int[] out) {
        if (set == 0) {
            World v = w.copy();
            int wed = 0;
            for (char figure : String.valueOf(figures).toCharArray()) {
                v.people.get(o).stood = false;
                wed += v.stand(o, figure - '1') == 1 ? 1 : 0;
                v.year();
            }
            if (wed > out[0]) {
                out[0] = wed;
                out[1] = figures;
            }
            return;
        }
        for (int c = 0; c < 6; c++) {
            if ((set >> c & 1) == 1) {
                orders(o, set - (1 << c), figures * 10 + c + 1, out);
            }
        }
    }

    int rounds(int o, int set, int what) {
        if (noObjector(o) || set < 0 || set >> w.pairs.size() != 0) {
            return UNKNOWN;
        }
        if (what != 0 && what != 1) {
            return OUTSIDE;
        }
        if ((set & setOf(0)) != set || Integer.bitCount(set) > 5) {
            return NOT;
        }
        if (set == 0) {
            return 0;
        }
        int[] out = {-1, 0};
        orders(o, set, 0, out);
        return out[what];
    }

    int holds(int c, int set) {
        if (noCouple(c) || set < 0 || set >> w.people.size() != 0) {
            return UNKNOWN;
        }
        for (int answer = 0;; answer++) {
            boolean all = true;
            for (int o = 0; o < w.people.size(); o++) {
                all &= (set >> o & 1) == 0 || !w.objects(o, c) || answer >= w.strength(o, c);
            }
            if (all) {
                return answer;
            }
        }
    }

    int dry(int n, int q) {
        if (n < 0 || n > 60 || q < 0 || q > 100) {
            return OUTSIDE;
        }
        long odds = 1000000000L;
        for (int i = 0; i < n; i++) {
            odds = Math.floorDiv(odds * q, 100L);
        }
        return (int) odds;
    }

    int say(int kind, int s, int v) {
        if (kind < 0 || kind > 2 || s < 0 || s > 40 || v < 0 || v > 99) {
            return OUTSIDE;
        }
        if (said.size() == 6) {
            return FULL;
        }
        said.add(new int[] {kind, s, v});
        return said.size();
    }

    private List<Integer> fitting() {
        List<Integer> fit = new ArrayList<>();
        for (int x = 0; x <= 20; x++) {
            int much = x;
            if (said.stream().allMatch(s -> byKind(s[0], s[1], much) == s[2])) {
                fit.add(x);
            }
        }
        return fit;
    }

    int weights(int what) {
        List<Integer> fit = fitting();
        return switch (what) {
            case 0 -> fit.size();
            case 1 -> fit.isEmpty() ? NONE : fit.get(0);
            case 2 -> fit.isEmpty() ? NONE : fit.get(fit.size() - 1);
            default -> OUTSIDE;
        };
    }

    int ask() {
        List<Integer> fit = fitting();
        IntBinaryOperator part = (kind, strength) ->
                (int) fit.stream().filter(x -> byKind(kind, 10, x) == strength).count();
        int best = NONE;
        int least = fit.size();
        for (int kind = 0; kind < 3; kind++) {
            int greatest = 0;
            for (int strength = 0; strength < 100; strength++) {
                greatest = Math.max(greatest, part.applyAsInt(kind, strength));
            }
            if (greatest < least) {
                least = greatest;
                best = kind;
            }
        }
        return best;
    }

    int write(int c, int answer) {
        if (noCouple(c)) {
            return UNKNOWN;
        }
        if (answer < 0 || answer > 99) {
            return OUTSIDE;
        }
        if (book.size() == 15) {
            return FULL;
        }
        book.add(new int[] {c, answer});
        return book.size();
    }

    int tear() {
        int both = said.size() + book.size();
        said.clear();
        book.clear();
        return both;
    }

    int judge() {
        for (int i = 0; i < book.size(); i++) {
            if (w.pairs.get(book.get(i)[0]).answer != book.get(i)[1]) {
                return i;
            }
        }
        return NONE;
    }

    int seed(int v) {
        if (v < 0) {
            return OUTSIDE;
        }
        int was = (int) seed;
        seed = v;
        return was;
    }

    int keep(int i) {
        if (i < 0 || i > 1) {
            return UNKNOWN;
        }
        images[i] = w.copy();
        seeds[i] = seed;
        undo.clear();
        return 1;
    }

    int goBack(int i) {
        if (i < 0 || i > 1) {
            return UNKNOWN;
        }
        if (images[i] == null) {
            return NOT;
        }
        w = images[i].copy();
        seed = seeds[i];
        undo.clear();
        return 1;
    }
}
