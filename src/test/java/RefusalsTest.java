import java.lang.reflect.InvocationTargetException;
import java.lang.reflect.Method;
import java.lang.reflect.Modifier;
import java.util.Arrays;
import java.util.Comparator;
import java.util.List;
import java.util.Random;

/** Whatever the numbers, no call throws; what is refused changes nothing, but for count() 8 by findings. */
public final class RefusalsTest {
    private static final Checks CHECKS = new Checks("RefusalsTest");
    private static final int[] EDGES = {Integer.MIN_VALUE, Integer.MIN_VALUE + 1, -1000, -1, 0, 1, 2, 3, 4, 5, 6, 7, 8,
        9, 10, 12, 20, 23, 24, 59, 60, 61, 99, 100, 255, 256, 1 << 16, Integer.MAX_VALUE - 1, Integer.MAX_VALUE};
    private static final List<String> FINDERS = List.of("read", "sheet", "lose", "lay", "get", "copy", "write");
    private static final int STATES = 4;
    private static final int TRIES = 400;
    /** What each state looks like if nothing is done to it. */
    private static final String[] UNTOUCHED = new String[STATES];

    public static void main(String[] args) throws IllegalAccessException {
        for (int which = 0; which < STATES; which++) {
            UNTOUCHED[which] = Snapshot.of(state(which));
        }
        Method[] methods = OthersHours.class.getDeclaredMethods();
        Arrays.sort(methods, Comparator.comparing(Method::getName));
        for (Method method : methods) {
            if (Modifier.isPublic(method.getModifiers())) {
                tryOut(method, new Random(method.getName().hashCode()));
            }
        }
        CHECKS.end();
    }

    private static void tryOut(Method method, Random random) throws IllegalAccessException {
        for (int i = 0; i < TRIES; i++) {
            Object[] numbers = new Object[method.getParameterCount()];
            for (int k = 0; k < numbers.length; k++) {
                numbers[k] = random.nextInt(4) == 0 ? random.nextInt(4) : EDGES[random.nextInt(EDGES.length)];
            }
            call(method, numbers, i % STATES);
        }
    }

    private static void call(Method method, Object[] numbers, int which) throws IllegalAccessException {
        String name = "state " + which + ": " + method.getName() + Arrays.toString(numbers);
        OthersHours x = state(which);
        Object answer;
        try {
            answer = method.invoke(x, numbers);
        } catch (InvocationTargetException e) {
            CHECKS.holds(name + " threw " + e.getCause(), false);
            return;
        }
        long told = ((Number) answer).longValue();
        boolean get = method.getName().equals("get");
        boolean finds = FINDERS.contains(method.getName()) && !get && told <= -11 && told >= -15;
        boolean unsure = get && told == Integer.MIN_VALUE;
        if (!unsure) {
            CHECKS.due(name + ", count(8)", x.count(8), finds ? -10 - told : Edges.FOUND);
        }
        if (told < 0) {
            String after = Snapshot.of(x);
            boolean same = after.equals(UNTOUCHED[which]);
            CHECKS.holds(name + " answered " + told + " and changed " + UNTOUCHED[which] + " to " + after, same);
        }
    }

    /** A new one; one with something of all; one with faulty texts; one that is full. Each has a finding. */
    private static OthersHours state(int which) {
        OthersHours x = switch (which) {
            case 0 -> new OthersHours();
            case 1 -> Edges.busy();
            case 2 -> Edges.byLaw(1, "0031;1x", "0000");
            default -> Edges.full();
        };
        x.sheet(0, 0, -1);
        return x;
    }
}
