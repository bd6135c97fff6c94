import java.lang.reflect.InvocationTargetException;
import java.lang.reflect.Method;
import java.util.ArrayList;
import java.util.Comparator;
import java.util.List;
import java.util.Random;

/** Calls with any numbers in any state: none may throw, and the same calls give the same answers. */
public final class OddCallsTest {
    private static final int[] ODD = {Integer.MIN_VALUE, Integer.MIN_VALUE + 1, -1000, -100, -99, -10, -5, -4, -3, -2, -1,
        0, 1, 2, 3, 4, 5, 6, 7, 8, 9, 10, 11, 12, 15, 16, 20, 39, 40, 41, 60, 61, 69, 70, 99, 100, 199, 200, 201, 500, 501,
        780, 781, 800, 801, 999, 1000, 9999, 10000, 52344, 52345, 99999, 100000, Integer.MAX_VALUE - 1, Integer.MAX_VALUE};
    private static final String[] TEXTS = {"tool a 1 1; step a 1;", "", "idle 0;", "tool a 50 1; tool b 1 60; step a 400 99; step b 1;",
        "tool a 1 1;tool b 1 1;tool c 1 1;tool d 1 1;tool e 1 1;tool f 1 1;step a 9;step b 9;step c 9;step d 9;step e 9;step f 9;"
            + "step a 8;meet a b;meet c d;meet e f;after 0 6;after 1 4;idle 0;", "0", "01", "0123456", "6543210", "10 20 30 40",
        "10 200 10 200 11 199 13 17 19 23", "tool", "after 0 1", "9".repeat(799), "z".repeat(800), ";"};

    private static void call(Method method, Object shop, Object[] args, List<Object> answers) throws IllegalAccessException {
        try {
            answers.add(method.invoke(shop, args));
        } catch (InvocationTargetException thrown) {
            Bench.is(method.getName() + java.util.Arrays.toString(args) + " threw " + thrown.getCause(), 1, 0);
        }
    }

    private static List<Object> run(long seed, List<Method> face) throws IllegalAccessException {
        Random random = new Random(seed);
        Bench bench = new Bench();
        List<Object> answers = new ArrayList<>();
        for (int n = 0; n < 512; n++) {
            if (random.nextInt(8) == 0) {
                bench.shop.end(0);
                bench.tape(random.nextInt(5) == 0 ? "5z".repeat(100) : TEXTS[random.nextInt(TEXTS.length)]);
            }
            Method method = face.get(random.nextInt(face.size()));
            Object[] args = new Object[method.getParameterCount()];
            boolean isLikely = random.nextInt(3) > 0;
            for (int a = 0; a < args.length; a++) {
                int number = isLikely ? random.nextInt(7) : ODD[random.nextInt(ODD.length)];
                args[a] = method.getParameterTypes()[a] == boolean.class ? (Object) (number > 0) : (Object) number;
            }
            call(method, bench.shop, args, answers);
        }
        return answers;
    }

    /** No call may be sensitive to which number stands where: each method with each pair of odd numbers. */
    private static void sweep(List<Method> face) throws IllegalAccessException {
        Bench bench = new Bench();
        for (String text : TEXTS) {
            bench.shop.end(0);
            bench.tape(text);
            bench.shop.part();
            bench.shop.gauge(0, 5, 0, 2);
            for (Method method : face) {
                for (int x : ODD) {
                    for (int y : ODD) {
                        Object[] args = new Object[method.getParameterCount()];
                        for (int a = 0; a < args.length; a++) {
                            int number = a % 2 == 0 ? x : y;
                            args[a] = method.getParameterTypes()[a] == boolean.class ? (Object) (number > 0) : (Object) number;
                        }
                        call(method, bench.shop, args, new ArrayList<>());
                        if (args.length == 0) break;
                    }
                    if (method.getParameterCount() == 0) break;
                }
            }
        }
    }

    public static void main(String[] args) throws IllegalAccessException {
        List<Method> face = new ArrayList<>();
        for (Method method : DiscLathe.class.getDeclaredMethods()) {
            if (java.lang.reflect.Modifier.isPublic(method.getModifiers())) face.add(method);
        }
        face.sort(Comparator.comparing(Method::getName));
        for (long seed = 0; seed < 1500; seed++) {
            Bench.is("the same answers by seed " + seed, run(seed, face).equals(run(seed, face)) ? 1 : 0, 1);
        }
        sweep(face);
        Bench.closeTest("OddCallsTest");
    }
}
