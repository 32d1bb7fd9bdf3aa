import java.lang.reflect.Constructor;
import java.lang.reflect.Field;
import java.lang.reflect.Method;
import java.lang.reflect.Modifier;
import java.util.Arrays;
import java.util.Set;
import java.util.TreeSet;

/** The public face is the document's, and nothing else can be seen. */
public final class FaceTest {
    private static final Checks CHECKS = new Checks("FaceTest");
    /** Each method with how many ints it takes. */
    private static final String METHODS = "type2 wipe1 undo1 fault1 setLaw1 home2 worth3 read2 owns2 acts2 deep2 free1"
        + " holds1 wronged1 gentlest0 done1 judged0 body3 met2 slips2 soonest2 fewest3 run2 trade4 trades0 frees1 word0"
        + " heir2 seen3 forget0 suspects0 likely0 sheet3 lose1 lay4 get3 copy5 write2 count1 digest0";

    public static void main(String[] args) {
        CHECKS.due("NONE", OthersHours.NONE, -1);
        CHECKS.due("BAD", OthersHours.BAD, -2);
        CHECKS.due("NOT", OthersHours.NOT, -3);
        CHECKS.due("FULL", OthersHours.FULL, -4);
        int modifiers = OthersHours.class.getModifiers();
        CHECKS.holds("the class is public and final", Modifier.isPublic(modifiers) && Modifier.isFinal(modifiers));
        methods();
        fields();
        constructors();
        classes();
        CHECKS.end();
    }

    private static void methods() {
        Set<String> seen = new TreeSet<>();
        Set<String> hidden = new TreeSet<>();
        for (Method m : OthersHours.class.getDeclaredMethods()) {
            if (Modifier.isPublic(m.getModifiers())) {
                seen.add(m.getName() + m.getParameterCount());
                CHECKS.holds(m + " is not static", !Modifier.isStatic(m.getModifiers()));
                Class<?> answer = m.getName().equals("digest") ? long.class : int.class;
                CHECKS.holds(m + " answers " + answer, m.getReturnType() == answer);
                CHECKS.holds(m + " takes ints", Arrays.stream(m.getParameterTypes()).allMatch(t -> t == int.class));
            } else {
                CHECKS.holds(m + " is private", Modifier.isPrivate(m.getModifiers()));
                hidden.add(m.getName());
            }
        }
        CHECKS.holds("the methods: " + seen, seen.equals(new TreeSet<>(Arrays.asList(METHODS.split(" ")))));
        for (String name : seen) {
            CHECKS.holds("no private " + name, !hidden.contains(name.substring(0, name.length() - 1)));
        }
    }

    private static void fields() {
        Set<String> seen = new TreeSet<>();
        for (Field f : OthersHours.class.getDeclaredFields()) {
            boolean isPublic = Modifier.isPublic(f.getModifiers());
            CHECKS.holds(f + " is public or private", isPublic || Modifier.isPrivate(f.getModifiers()));
            boolean isStatic = Modifier.isStatic(f.getModifiers());
            CHECKS.holds(f + " is final if static", !isStatic || Modifier.isFinal(f.getModifiers()));
            if (isPublic) {
                seen.add(f.getName());
                CHECKS.holds(f + " is a constant int", isStatic && f.getType() == int.class);
            }
        }
        CHECKS.holds("the constants: " + seen, seen.equals(Set.of("NONE", "BAD", "NOT", "FULL")));
    }

    private static void constructors() {
        Constructor<?>[] all = OthersHours.class.getDeclaredConstructors();
        boolean one = all.length == 1 && all[0].getParameterCount() == 0 && Modifier.isPublic(all[0].getModifiers());
        CHECKS.holds("one constructor", one);
    }

    private static void classes() {
        Class<?>[] inside = OthersHours.class.getDeclaredClasses();
        CHECKS.holds("at most twelve classes", inside.length < 12);
        for (Class<?> c : inside) {
            boolean fits = Modifier.isStatic(c.getModifiers()) && !Modifier.isPublic(c.getModifiers());
            CHECKS.holds(c + " is static and not public", fits && !Modifier.isProtected(c.getModifiers()));
            CHECKS.holds(c + " has few fields", c.getDeclaredFields().length <= 20);
        }
    }
}
