import java.lang.reflect.InvocationTargetException;
import java.lang.reflect.Method;
import java.lang.reflect.Modifier;
import java.util.ArrayList;
import java.util.Comparator;
import java.util.List;
import java.util.Random;

/** Any calls with any numbers, far more than 512 on one object: none may throw, nothing may go astray. */
public final class RoughTest {
    private static final long[] EDGES = {
        Long.MIN_VALUE, Integer.MIN_VALUE, -1, 0, 1, 2, 12, 13, 19, 20, 39, 40, 59, 60, 61, 199, 200, 999, 1000, 4095,
        4096, 10000, 1000000, 1000001, 1000000000, 1000000001, Integer.MAX_VALUE, 1L << 32, Long.MAX_VALUE};
    private static int wrong = 0;

    private static List<Method> calls() {
        List<Method> all = new ArrayList<>();
        for (Method m : BlendCellar.class.getDeclaredMethods()) {
            if (Modifier.isPublic(m.getModifiers())) {
                all.add(m);
            }
        }
        all.sort(Comparator.comparing(Method::getName));
        return all;
    }

    private static Object number(Random random, Class<?> type) {
        long number = random.nextInt(5) == 0 ? EDGES[random.nextInt(EDGES.length)]
            : random.nextInt(random.nextBoolean() ? 7 : 3000);
        if (type == int.class) {
            return (int) number;
        }
        return number;
    }

    private static void run(int seed, int calls) throws IllegalAccessException {
        Random random = new Random(seed);
        List<Method> all = calls();
        BlendCellar x = new BlendCellar();
        for (int i = 0; i < calls; i++) {
            Method m = all.get(random.nextInt(all.size()));
            Object[] numbers = new Object[m.getParameterCount()];
            for (int k = 0; k < numbers.length; k++) {
                numbers[k] = number(random, m.getParameterTypes()[k]);
            }
            try {
                long answer = ((Number) m.invoke(x, numbers)).longValue();
                if (answer < -14 && !m.getName().equals("digest")) {
                    wrong++;
                    System.out.println(m.getName() + java.util.Arrays.toString(numbers) + " answered " + answer);
                }
            } catch (InvocationTargetException e) {
                wrong++;
                System.out.println(m.getName() + java.util.Arrays.toString(numbers) + " threw " + e.getCause());
            }
            if (x.odd() != 0 || x.strays() != 0 || x.closed() != 1) {
                wrong++;
                System.out.println("odd, strays or closed behind " + m.getName() + java.util.Arrays.toString(numbers));
            }
        }
    }

    public static void main(String[] args) throws IllegalAccessException {
        for (int seed = 1; seed <= 60 && wrong < 20; seed++) {
            run(seed, seed % 20 == 0 ? 20000 : 1000);
        }
        System.out.println(wrong == 0 ? "nothing threw, nothing went astray" : wrong + " faults");
        if (wrong != 0) {
            System.exit(1);
        }
    }
}
