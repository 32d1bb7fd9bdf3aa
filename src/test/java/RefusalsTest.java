import java.lang.reflect.InvocationTargetException;
import java.lang.reflect.Method;
import java.lang.reflect.Modifier;
import java.util.Arrays;
import java.util.Comparator;
import java.util.List;
import java.util.Random;

/** Whatever the numbers, no call throws; what is refused changes nothing, but for count() 8 by findings. */
public final class RefusalsTest {
    private static final Checks CHECKS = new Checks("RefusalsTest");
    private static final int[] EDGES = {Integer.MIN_VALUE, Integer.MIN_VALUE + 1, -1000, -1, 0, 1, 2, 3, 4, 5, 6, 7, 8,
        9, 10, 12, 20, 23, 24, 59, 60, 61, 99, 100, 255, 256, 1 << 16, Integer.MAX_VALUE - 1, Integer.MAX_VALUE};
    private static final List<String> FINDERS = List.of("read", "sheet", "lose", "lay", "get", "copy", "write");
    private static final int TRIES = 400;

    public static void main(String[] args) throws IllegalAccessException {
        Method[] methods = OthersHours.class.getDeclaredMethods();
        Arrays.sort(methods, Comparator.comparing(Method::getName));
        for (Method method : methods) {
            if (Modifier.isPublic(method.getModifiers())) {
                tryOut(method, new Random(method.getName().hashCode()));
            }
        }
        CHECKS.end();
    }

    private static void tryOut(Method method, Random random) throws IllegalAccessException {
        for (int i = 0; i < TRIES; i++) {
            Object[] numbers = new Object[method.getParameterCount()];
            for (int k = 0; k < numbers.length; k++) {
                numbers[k] = random.nextInt(4) == 0 ? random.nextInt(4) : EDGES[random.nextInt(EDGES.length)];
            }
            call(method, numbers, state(i % 4));
        }
    }

    private static void call(Method method, Object[] numbers, OthersHours x) throws IllegalAccessException {
        String name = method.getName() + Arrays.toString(numbers);
        int finding = x.count(8);
        String before = snapshot(x);
        x.sheet(0, 0, -1);
        Object answer;
        try {
            answer = method.invoke(x, numbers);
        } catch (InvocationTargetException e) {
            CHECKS.holds(name + " threw " + e.getCause(), false);
            return;
        }
        long told = ((Number) answer).longValue();
        CHECKS.holds("a new state has no finding", finding == 0);
        boolean finds = FINDERS.contains(method.getName()) && told <= -11 && told >= -15;
        boolean least = method.getName().equals("get") && told == Integer.MIN_VALUE;
        if (finds && !method.getName().equals("get")) {
            CHECKS.due(name + ", count(8)", x.count(8), -10 - told);
        } else if (!least && !method.getName().equals("count")) {
            CHECKS.due(name + ", count(8)", x.count(8), 5);
        }
        if (told < 0) {
            String after = snapshot(x);
            CHECKS.holds(name + " answered " + told + " and changed " + before + " to " + after, before.equals(after));
        }
    }

    /** A new one; one with much in it; one with faulty texts; one in which all is full. */
    private static OthersHours state(int which) {
        OthersHours x = new OthersHours();
        if (which == 0) {
            return x;
        }
        Checks.type(x, 0, which == 2 ? "0031;1x" : "0031;1032;2030;3044;5050;4051");
        Checks.type(x, 1, which == 2 ? "0000" : "00001;10032;50001;55074;55081");
        x.setLaw(which - 1);
        x.home(2, 7);
        x.worth(1, 1, 8);
        x.sheet(0, 0, 4);
        x.sheet(1, 0, 60);
        x.sheet(2, 2, 1);
        x.lay(1, 0, 1, 77);
        int seen = which == 3 ? 8 : 2;
        for (int i = 0; i < seen; i++) {
            x.seen(i % 6, i, i % 5);
        }
        if (which == 3) {
            for (int i = 0; i < 99; i++) {
                x.type(0, 0);
                x.type(1, 255);
            }
        }
        return x;
    }

    private static String snapshot(OthersHours x) {
        StringBuilder all = new StringBuilder();
        all.append(x.digest()).append(' ').append(x.count(2)).append(' ').append(x.count(3));
        for (int person = 0; person < 6; person++) {
            int home = x.home(person, 0);
            x.home(person, home);
            all.append(" home ").append(home);
            for (int hour = 0; hour < 24; hour++) {
                int worth = x.worth(person, hour, 0);
                x.worth(person, hour, worth);
                all.append(' ').append(worth);
            }
        }
        for (int s = 0; s < 4; s++) {
            for (int form = 0; form < 3; form++) {
                for (int i = 0; i < 61; i++) {
                    all.append(' ').append(x.get(s, form, i));
                }
            }
        }
        return all.toString();
    }
}
