import java.lang.reflect.InvocationTargetException;
import java.lang.reflect.Method;
import java.util.ArrayList;
import java.util.Comparator;
import java.util.List;
import java.util.NoSuchElementException;
import java.util.Random;

/** All promises: whatever the arguments and the state, only of() and row() throw, and only NoSuchElementException. */
public final class AnyArgumentsTest {
    public static void main(String[] args) throws IllegalAccessException {
        List<Method> methods = new ArrayList<>();
        for (Method m : EnginesAsleep.class.getDeclaredMethods()) {
            if (java.lang.reflect.Modifier.isPublic(m.getModifiers())) {
                methods.add(m);
            }
        }
        methods.sort(Comparator.comparing(Method::getName));
        Check.due("methods", methods.size(), 52);
        int faults = 0;
        for (int seed = 0; seed < 600 && faults < 5; seed++) {
            Random random = new Random(seed);
            EnginesAsleep x = new EnginesAsleep();
            if (seed % 2 == 0) {
                full(x, random);
            }
            while (x.count(2) < 100000 && faults < 5 && random.nextInt(450) > 0) {
                Method m = methods.get(random.nextInt(methods.size()));
                faults += call(x, m, arguments(m, random, seed % 5));
            }
        }
        Check.end();
    }

    /** As many stalls, engines and trains as there can be. */
    private static void full(EnginesAsleep x, Random random) {
        x.ring(23);
        for (int e = 0; e < 12; e++) {
            x.engine(5 + random.nextInt(11), random.nextInt(6), random.nextInt(30), random.nextBoolean());
            x.light(e);
        }
        x.pass(30);
        for (int t = 0; t < 8; t++) {
            x.train(30 + random.nextInt(200), random.nextInt(3), 1 + random.nextInt(100));
            x.plan(t, t);
        }
        for (int e = 0; e < 12; e++) {
            x.move(e, random.nextInt(24));
        }
    }

    private static Object[] arguments(Method m, Random random, int wild) {
        Class<?>[] types = m.getParameterTypes();
        Object[] a = new Object[types.length];
        for (int i = 0; i < a.length; i++) {
            a[i] = types[i] == boolean.class ? (Object) random.nextBoolean() : (Object) number(random, wild);
        }
        return a;
    }

    private static int number(Random random, int wild) {
        switch (random.nextInt(6 + wild)) {
            case 0: return random.nextInt(4);
            case 1: return random.nextInt(12);
            case 2: return random.nextInt(24);
            case 3: return random.nextInt(61);
            case 4: return random.nextInt(4096);
            case 5: return random.nextInt(40) - 5;
            case 6: return random.nextInt();
            case 7: return Integer.MIN_VALUE + random.nextInt(3);
            case 8: return Integer.MAX_VALUE - random.nextInt(3);
            default: return 1 << random.nextInt(32);
        }
    }

    private static int call(EnginesAsleep x, Method m, Object[] a) throws IllegalAccessException {
        try {
            m.invoke(x, a);
            Check.due("a call", true, true);
            return 0;
        } catch (InvocationTargetException e) {
            boolean may = m.getName().equals("of") || m.getName().equals("row");
            if (may && e.getCause().getClass() == NoSuchElementException.class) {
                return 0;
            }
            Check.fault(m.getName() + java.util.Arrays.toString(a) + " threw " + e.getCause());
            return 1;
        }
    }
}
