import java.lang.reflect.InvocationTargetException;
import java.lang.reflect.Method;
import java.lang.reflect.Modifier;
import java.util.ArrayList;
import java.util.Arrays;
import java.util.Comparator;
import java.util.List;
import java.util.Random;

/** No call throws, whatever its arguments are: every method of the face with wild numbers, in all kinds of states. */
public final class WildTest {
    private static final int RUNS = 400, CALLS = 512;
    private static final int[] EDGES = {Integer.MIN_VALUE, Integer.MIN_VALUE + 1, -100, -2, -1, 0, 1, 2, 3, 4, 5, 6, 7, 8, 9,
        10, 20, 21, 23, 24, 25, 38, 39, 40, 41, 100, 255, 256, 888888, 999, 1000, 9999, 10000, Integer.MAX_VALUE - 2,
        Integer.MAX_VALUE - 1, Integer.MAX_VALUE};

    public static void main(String[] args) throws IllegalAccessException {
        List<Method> calls = new ArrayList<>();
        for (Method m : DearerByUse.class.getDeclaredMethods()) {
            if (Modifier.isPublic(m.getModifiers())) calls.add(m);
        }
        calls.sort(Comparator.comparing(Method::getName));
        for (int run = 0; run < RUNS; run++) wildRun(calls, new Random(run));
        Checks.due("methods", calls.size(), 35);
        Checks.end("WildTest");
    }

    private static void wildRun(List<Method> calls, Random random) throws IllegalAccessException {
        DearerByUse x = new DearerByUse();
        if (random.nextBoolean()) furnish(x, random);
        for (int i = 0; i < CALLS; i++) {
            Method call = calls.get(random.nextInt(calls.size()));
            Object[] values = new Object[call.getParameterCount()];
            int reach = random.nextInt(3);
            for (int p = 0; p < values.length; p++) values[p] = wild(random, reach);
            try {
                call.invoke(x, values);
            } catch (InvocationTargetException thrown) {
                Checks.due(call.getName() + Arrays.toString(values) + " threw " + thrown.getCause(), 1, 0);
                return;
            }
        }
    }

    private static Object wild(Random random, int reach) {
        if (reach == 0) return random.nextInt();
        return reach == 1 ? EDGES[random.nextInt(EDGES.length)] : Integer.valueOf(random.nextInt(7) - 1);
    }

    private static void furnish(DearerByUse x, Random random) {
        for (int i = random.nextInt(11); i > 0; i--) x.word(random.nextInt(2), 123456);
        for (int i = random.nextInt(6); i > 0; i--) x.writer(random.nextInt(2), random.nextInt(24), 9999);
        for (int i = random.nextInt(6); i > 0; i--) x.law(random.nextInt(6), random.nextInt(10));
        TextMaker maker = new TextMaker(random);
        for (int i = random.nextInt(7); i > 0; i--) x.force(Checks.text(x, maker.text()));
        for (int sheet = 0; sheet < 4; sheet++) x.sheet(sheet, random.nextInt(4) - 1, random.nextInt(8));
    }
}
