import java.util.ArrayList;
import java.util.List;

/** Promise 41: digest, from the answers that it is made of, and that it changes nothing. */
public final class DigestTest {
    private static final Checks CHECKS = new Checks("DigestTest");

    public static void main(String[] args) {
        alike("new", new OthersHours());
        alike("faulty", Checks.with("0031;1042;", "0000"));
        for (int law = 0; law < 3; law++) {
            alike("law " + law, muchTold(law));
        }
        changesNothing(muchTold(2));
        alike("few hours", fewHours());
        CHECKS.end();
    }

    private static OthersHours muchTold(int law) {
        OthersHours x = Checks.with("0091;1092;2090;3204;4003;0205;5000", "00001;10091;55202;55212;44203");
        x.home(0, 3);
        x.home(5, 2);
        for (int person = 0; person < 6; person++) {
            for (int hour = 0; hour < 24; hour++) {
                x.worth(person, hour, (person * 7 + hour * 3) % 10);
            }
        }
        x.seen(5, 20, 2);
        x.setLaw(law);
        return x;
    }

    /** 1 has just eight hours of its own body and one of 2; no two bodies meet as 0 and 1 do. */
    private static OthersHours fewHours() {
        StringBuilder grants = new StringBuilder("2231");
        for (int hour = 0; hour < 16; hour++) {
            grants.append(";1").append(hour / 10).append(hour % 10).append('0');
        }
        OthersHours x = Checks.with(grants.toString(), "00022;11163;22042;33002");
        for (int body = 0; body < 6; body++) {
            x.home(body, body);
        }
        x.home(1, 2);
        return x;
    }

    private static void alike(String name, OthersHours x) {
        long h = 17;
        for (long part : parts(x)) {
            h = h * 31 + part;
        }
        CHECKS.due(name + ": digest()", x.digest(), h);
        CHECKS.due(name + ": digest() again", x.digest(), h);
    }

    private static List<Long> parts(OthersHours x) {
        List<Long> all = new ArrayList<>();
        for (int what = 0; what <= 7; what++) {
            all.add((long) x.count(what));
        }
        all.add((long) x.fault(0));
        all.add((long) x.fault(1));
        all.add((long) x.judged());
        for (int person = 0; person < 6; person++) {
            addPerson(all, x, person);
        }
        for (int law = 0; law < 3; law++) {
            all.add((long) x.wronged(law));
        }
        all.add((long) x.gentlest());
        all.add((long) x.met(0, 1));
        all.add((long) x.slips(0, 1));
        all.add((long) x.trades());
        all.add((long) x.word());
        for (int grant = 0; grant < x.count(0); grant++) {
            all.add((long) x.frees(grant));
        }
        all.add((long) x.suspects());
        all.add((long) x.likely());
        return all;
    }

    private static void addPerson(List<Long> all, OthersHours x, int person) {
        all.add((long) x.free(person));
        all.add((long) x.holds(person));
        for (int hour : new int[] {0, 9, 20}) {
            all.add((long) x.owns(person, hour));
            all.add((long) x.acts(person, hour));
            all.add((long) x.deep(person, hour));
            for (int what = 0; what <= 2; what++) {
                all.add((long) x.body(person, hour, what));
            }
        }
        all.add((long) x.soonest(person, 9));
        all.add((long) x.fewest(person, 9, 0));
        all.add((long) x.fewest(person, 9, 1));
        for (int what = 0; what <= 3; what++) {
            all.add((long) x.run(person, what));
        }
        all.add((long) x.heir(person, 0));
    }

    private static void changesNothing(OthersHours x) {
        x.sheet(0, 0, -1);
        long before = x.digest();
        CHECKS.due("count(8) is no part and stays", x.count(8), 5);
        x.lose(0);
        CHECKS.due("count(8) is no part", x.digest(), before);
        x.sheet(0, 0, 3);
        CHECKS.due("sheets are no part", x.digest(), before);
    }
}
