import java.lang.reflect.InvocationTargetException;
import java.lang.reflect.Method;
import java.util.ArrayList;
import java.util.Comparator;
import java.util.List;
import java.util.Random;

/** No call ever throws, whatever the numbers, from a new object as from a city with something of everything. */
final class AnyNumbersTest {
    private static final int RUNS = 400;
    private static final int CALLS = 400;
    private static final int[] NUMBERS = {Integer.MIN_VALUE, Integer.MIN_VALUE + 1, -1001, -2, -1, 0, 0, 1, 1, 2, 3, 4, 5,
        6, 7, 12, 13, 23, 24, 39, 40, 50, 59, 60, 61, 63, 89, 90, 91, 100, 101, 200, 399, 400, 3000, 65536,
        Integer.MAX_VALUE - 1, Integer.MAX_VALUE};

    private AnyNumbersTest() { }

    static void run() {
        List<Method> methods = new ArrayList<>(List.of(SkipCity.class.getDeclaredMethods()));
        methods.removeIf(m -> !java.lang.reflect.Modifier.isPublic(m.getModifiers()));
        // The order in which reflection tells them is free, and a run must be the same each time.
        methods.sort(Comparator.comparing(Method::getName));
        for (int seed = 0; seed < RUNS; seed++) {
            Random random = new Random(seed);
            SkipCity x = seed % 2 == 0 ? new SkipCity() : Town.made();
            int thrown = 0;
            for (int i = 0; i < CALLS; i++) {
                thrown += throwsIn(x, methods.get(random.nextInt(methods.size())), random, seed);
            }
            Checks.due("calls that threw", thrown, 0);
        }
    }

    private static int throwsIn(SkipCity x, Method method, Random random, int seed) {
        Object[] numbers = new Object[method.getParameterCount()];
        for (int i = 0; i < numbers.length; i++) {
            numbers[i] = method.getParameterTypes()[i] == boolean.class ? (Object) random.nextBoolean()
                : random.nextInt(3) == 0 ? random.nextInt(6) : NUMBERS[random.nextInt(NUMBERS.length)];
        }
        try {
            method.invoke(x, numbers);
            return 0;
        } catch (InvocationTargetException | IllegalAccessException e) {
            System.out.println("run " + seed + ": " + method.getName() + List.of(numbers) + ": " + e.getCause());
            return 1;
        }
    }
}
