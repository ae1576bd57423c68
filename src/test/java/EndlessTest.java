import java.lang.reflect.InvocationTargetException;
import java.lang.reflect.Method;
import java.util.ArrayList;
import java.util.Arrays;
import java.util.Comparator;
import java.util.List;
import java.util.Random;

/**
 * No call throws or fails to end, for any arguments in any state, also beyond the 512 calls behind which answers are
 * free; the same calls give the same answers, whatever is done to another object meanwhile.
 */
public final class EndlessTest {
    private static final Check CHECK = new Check();
    private static final int RUNS = 300;
    private static final int CALLS = 3000;
    private static final int PROMISED = 512;
    private static final long PATIENCE = 120000;
    private static final int[] WILD = {Integer.MIN_VALUE, Integer.MIN_VALUE + 1, -1000000005, -1000000001, -65536, -241, -64, -17, -3,
        -2, -1, 7, 15, 16, 17, 20, 21, 31, 32, 40, 41, 60, 61, 63, 64, 99, 100, 127, 240, 241, 255, 256, 9001, 65536, 1 << 30, Integer.MAX_VALUE};
    private static final String LETTERS = "dco0123456789 ,;x";
    private static final List<Method> FACE = face();
    private static volatile int ended = 0;

    private static List<Method> face() {
        List<Method> face = new ArrayList<>();
        for (Method method : WeddingReasons.class.getDeclaredMethods()) {
            if (java.lang.reflect.Modifier.isPublic(method.getModifiers())) {
                face.add(method);
            }
        }
        face.sort(Comparator.comparing(Method::getName));
        return face;
    }

    public static void main(String[] args) throws InterruptedException {
        Thread runs = new Thread(EndlessTest::allRuns);
        runs.setDaemon(true);
        runs.start();
        runs.join(PATIENCE);
        CHECK.due("runs that ended", ended, RUNS);
        CHECK.end();
    }

    private static void allRuns() {
        for (int run = 0; run < RUNS; run++) {
            oneRun(run);
            ended = run + 1;
        }
    }

    private static void oneRun(int run) {
        Random random = new Random(run);
        List<Method> chosen = chosen(random);
        WeddingReasons x = new WeddingReasons();
        WeddingReasons twin = new WeddingReasons();
        WeddingReasons other = new WeddingReasons();
        Check.feedAll(other, text(new Random(-run)));
        other.deanery();
        List<String> answers = new ArrayList<>();
        List<String> again = new ArrayList<>();
        for (int n = 0; n < CALLS; n++) {
            boolean telling = n == 0 || run % 2 == 0 && random.nextInt(500) == 0;
            String text = telling ? text(random) : "";
            for (int i = 0; i < text.length(); i++) {
                answers.add("feed " + x.feed(text.charAt(i)));
                again.add("feed " + twin.feed(text.charAt(i)));
            }
            Method method = telling ? named("deanery") : chosen.get(random.nextInt(chosen.size()));
            Object[] arguments = arguments(method, random);
            answers.add(answer(x, method, arguments));
            answer(other, FACE.get(random.nextInt(FACE.size())), null);
            again.add(answer(twin, method, arguments));
        }
        int promised = Math.min(PROMISED, answers.size());
        CHECK.same("run " + run + " again", again.subList(0, promised).toString(), answers.subList(0, promised).toString());
    }

    /** Some of the calls alone, so that what others would empty comes to be full. */
    private static List<Method> chosen(Random random) {
        List<Method> chosen = new ArrayList<>();
        for (Method method : FACE) {
            if (random.nextInt(4) == 0) {
                chosen.add(method);
            }
        }
        return chosen.isEmpty() ? FACE : chosen;
    }

    private static Method named(String name) {
        return FACE.stream().filter(method -> method.getName().equals(name)).findFirst().orElseThrow();
    }

    private static Object[] arguments(Method method, Random random) {
        Class<?>[] types = method.getParameterTypes();
        Object[] arguments = new Object[types.length];
        for (int i = 0; i < types.length; i++) {
            arguments[i] = types[i] == boolean.class ? (Object) random.nextBoolean() : (Object) number(random);
        }
        return arguments;
    }

    private static int number(Random random) {
        int dice = random.nextInt(20);
        if (dice == 0) {
            return random.nextInt();
        }
        return dice < 4 ? WILD[random.nextInt(WILD.length)] : random.nextInt(dice < 16 ? 7 : 100);
    }

    private static String answer(WeddingReasons x, Method method, Object[] given) {
        Object[] arguments = given == null ? arguments(method, new Random(method.getName().hashCode())) : given;
        String call = method.getName() + Arrays.toString(arguments);
        try {
            return call + " " + method.invoke(x, arguments);
        } catch (InvocationTargetException thrown) {
            CHECK.same(call + " throws", String.valueOf(thrown.getCause()), "");
            return call + " throws";
        } catch (IllegalAccessException hidden) {
            throw new IllegalStateException(hidden);
        }
    }

    /** A good text with couples and objectors in it; at times letters by chance behind it. */
    private static String text(Random random) {
        StringBuilder text = new StringBuilder("d" + (1 + random.nextInt(6)) + ";");
        for (int c = random.nextInt(7); c > 0; c--) {
            text.append('c').append(random.nextInt(61));
            for (int r = 0; r < 5; r++) {
                text.append(r == 0 ? ' ' : ',').append(random.nextInt(10));
            }
            text.append(';');
        }
        for (int o = random.nextInt(7); o > 0; o--) {
            text.append('o').append(random.nextInt(4)).append(' ').append(random.nextInt(21)).append(' ').append(random.nextInt(32)).append(';');
        }
        for (int i = random.nextInt(8) == 0 ? random.nextInt(40) : 0; i > 0; i--) {
            text.append(LETTERS.charAt(random.nextInt(LETTERS.length())));
        }
        return text.toString();
    }
}
