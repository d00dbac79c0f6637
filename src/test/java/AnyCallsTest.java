import java.lang.reflect.InvocationTargetException;
import java.lang.reflect.Method;
import java.lang.reflect.Modifier;
import java.util.ArrayList;
import java.util.Comparator;
import java.util.List;
import java.util.Random;

/** Any calls in any order: none throws, what is refused changes nothing, the same calls give the same answers. */
public final class AnyCallsTest {
    private static final Check check = new Check();
    private static final int[] EDGES = {-1, -2, 60, 61, 99, 100, 199, 200, 255, 256, 310100, 306012, 3030, 3031,
        Integer.MAX_VALUE, Integer.MIN_VALUE, -1000000007, 10100, 120000, 1230, 45, 81};
    private static final List<Method> methods = publicMethods();

    public static void main(String[] args) throws Exception {
        for (int seed = 0; seed < 300; seed++) {
            run(seed, seed % 3 == 0);
        }
        check.end();
    }

    private static List<Method> publicMethods() {
        List<Method> all = new ArrayList<>();
        for (Method method : GloveRegret.class.getDeclaredMethods()) {
            if (Modifier.isPublic(method.getModifiers())) {
                all.add(method);
            }
        }
        all.sort(Comparator.comparing(Method::getName));
        return all;
    }

    private static void run(int seed, boolean isLookedAt) throws Exception {
        Random random = new Random(seed);
        GloveRegret x = new GloveRegret();
        GloveRegret twin = new GloveRegret();
        for (int i = 0; i < 512; i++) {
            if (random.nextInt(20) == 0) {
                feedBoth(x, twin, random);
            }
            Method method = methods.get(random.nextInt(methods.size()));
            Object[] told = arguments(method, random, seed % 2 == 0 ? 4 : 12);
            String before = isLookedAt ? Check.seen(x) : "";
            long answer = call(x, method, told);
            check.due(method.getName() + " of the twin", call(twin, method, told), answer);
            if (isLookedAt && isRefusal(answer) && !method.getName().equals("act")) {
                boolean same = before.equals(Check.seen(x));
                check.due(method.getName() + " answered " + answer + " and changed nothing", same ? 1 : 0, 1);
            }
        }
    }

    private static void feedBoth(GloveRegret x, GloveRegret twin, Random random) {
        String[] texts = {"r+l*3-h*4+m%3-n/2+(g=2)*5", "n>3?r;m", "!h&r>9?99-r;l*l;5", "r-l", "-(-(-(-r)))", "r%", "7"};
        String text = texts[random.nextInt(texts.length)];
        x.law();
        twin.law();
        check.due("law of both", Check.law(twin, text), Check.law(x, text));
    }

    private static Object[] arguments(Method method, Random random, int edgesOneIn) {
        Object[] told = new Object[method.getParameterCount()];
        for (int i = 0; i < told.length; i++) {
            int v = random.nextInt(edgesOneIn) == 0 ? EDGES[random.nextInt(EDGES.length)] : random.nextInt(10);
            if (method.getName().equals("drawn") && i == 1 && random.nextBoolean()) {
                v = 10000 * random.nextInt(32) + 100 * random.nextInt(62) + random.nextInt(14);
            }
            if ((method.getName().equals("slipWhen") || method.getName().equals("byTurns")) && random.nextBoolean()) {
                v = i == 1 ? 100 * random.nextInt(32) + random.nextInt(32) : i == 0 ? random.nextInt(90) : v;
            }
            if (method.getParameterTypes()[i] == long.class) {
                told[i] = random.nextInt(4) == 0 ? random.nextLong() : (Object) (long) v;
            } else {
                told[i] = v;
            }
        }
        return told;
    }

    private static long call(GloveRegret x, Method method, Object[] told) throws Exception {
        try {
            return ((Number) method.invoke(x, told)).longValue();
        } catch (InvocationTargetException e) {
            check.due(method.getName() + java.util.Arrays.toString(told) + " threw " + e.getCause(), 1, 0);
            return 0;
        }
    }

    private static boolean isRefusal(long answer) {
        return answer == -1 || answer == -2 || answer == -3 || answer == -5 || answer <= -11 && answer >= -14
            || answer == GloveRegret.VOID || answer == Long.MIN_VALUE;
    }
}
