import java.lang.reflect.InvocationTargetException;
import java.lang.reflect.Method;
import java.util.Arrays;
import java.util.Comparator;
import java.util.Random;

/** No call throws, whatever it is given, and the same calls give the same answers. */
public final class WildRuns {
    private static final int[] EDGES = {Integer.MIN_VALUE, Integer.MIN_VALUE + 1, -100000, -21, -2, -1, 0, 1, 2, 3, 5, 6,
        7, 8, 11, 12, 13, 14, 19, 20, 24, 25, 31, 32, 99, 255, 999, 1000, 9999, 16383, 99999, 100000, 0x7FFFFFFE, 0x7FFFFFFF};

    private static long[] run(int seed, Method[] methods) throws IllegalAccessException {
        Random random = new Random(seed);
        LoveLocks x = new LoveLocks();
        long[] answers = new long[512];
        for (int k = 0; k < 512; k++) {
            Method m = methods[random.nextInt(methods.length)];
            Object[] args = new Object[m.getParameterCount()];
            for (int a = 0; a < args.length; a++) {
                boolean isLong = m.getParameterTypes()[a] == long.class;
                int v = random.nextInt(4) == 0 ? EDGES[random.nextInt(EDGES.length)] : random.nextInt(1 + random.nextInt(15));
                long signs = random.nextInt(3) == 0 ? random.nextLong() : 0x4141412B41413F41L >>> 8 * random.nextInt(8);
                args[a] = isLong ? (Object) signs : (Object) v;
            }
            try {
                answers[k] = ((Number) m.invoke(x, args)).longValue();
            } catch (InvocationTargetException e) {
                System.out.println("seed " + seed + ": " + m.getName() + Arrays.toString(args) + " threw " + e.getCause());
                System.exit(1);
            }
        }
        return answers;
    }

    public static void main(String[] args) throws IllegalAccessException {
        Method[] methods = Arrays.stream(LoveLocks.class.getDeclaredMethods())
                .filter(m -> java.lang.reflect.Modifier.isPublic(m.getModifiers()))
                .sorted(Comparator.comparing(Method::getName)).toArray(Method[]::new);
        if (methods.length != 38 - 1) {
            System.out.println("the face has " + methods.length + " methods");
            System.exit(1);
        }
        for (int seed = 0; seed < 400; seed++) {
            if (!Arrays.equals(run(seed, methods), run(seed, methods))) {
                System.out.println("seed " + seed + ": other answers the second time");
                System.exit(1);
            }
        }
        System.out.println("no call threw");
    }
}
