import java.util.ArrayList;
import java.util.Arrays;
import java.util.HashMap;
import java.util.HashSet;
import java.util.List;
import java.util.Map;
import java.util.Set;
import java.util.regex.Matcher;
import java.util.regex.Pattern;

/** The document once more, told in the slowest and plainest way, to hold the class against. */
final class Model {
    private static final String HOUR = "([01][0-9]|2[0-3])";
    private static final Pattern[] FORMS = {
        Pattern.compile("([0-5]" + HOUR + "[0-5](;[0-5]" + HOUR + "[0-5]){0,19})?"),
        Pattern.compile("([0-5][0-5]" + HOUR + "[0-4](;[0-5][0-5]" + HOUR + "[0-4]){0,19})?")};

    final String[] texts = {"", ""};
    final int[] homes = new int[6];
    final int[][] worths = new int[6][24];
    final List<int[]> seen = new ArrayList<>();
    final long[][] sheets = new long[4][];
    final int[] forms = new int[4];
    /** The texts of which the faults are known: to find one takes long, and it is asked for often. */
    private final String[] judgedTexts = new String[2];
    private final int[] faults = new int[2];
    int law;
    int finding;

    private static boolean in(int v, int low, int high) {
        return low <= v && v <= high;
    }

    private int finding(int number) {
        finding = number;
        return -10 - number;
    }

    // ---- texts

    int type(int text, int b) {
        if (!in(text, 0, 1) || !in(b, 0, 255)) {
            return -2;
        }
        if (texts[text].length() == 99) {
            return -4;
        }
        texts[text] += (char) b;
        return texts[text].length();
    }

    int wipe(int text) {
        if (!in(text, 0, 1)) {
            return -2;
        }
        int had = texts[text].length();
        texts[text] = "";
        return had;
    }

    int undo(int text) {
        if (!in(text, 0, 1)) {
            return -2;
        }
        if (entries(text).length == 0) {
            return -3;
        }
        int cut = texts[text].lastIndexOf(';');
        texts[text] = cut < 0 ? "" : texts[text].substring(0, cut);
        return entries(text).length;
    }

    int fault(int text) {
        if (!in(text, 0, 1)) {
            return -2;
        }
        if (!texts[text].equals(judgedTexts[text])) {
            judgedTexts[text] = texts[text];
            faults[text] = faultOf(text);
        }
        return faults[text];
    }

    private int faultOf(int text) {
        for (int end = 1; end <= texts[text].length(); end++) {
            if (!canBegin(text, texts[text].substring(0, end))) {
                return end - 1;
            }
        }
        return FORMS[text].matcher(texts[text]).matches() ? -1 : texts[text].length();
    }

    private static boolean canBegin(int text, String bytes) {
        Matcher m = FORMS[text].matcher(bytes);
        return (m.matches() || m.hitEnd()) && (text == 1 || !tellsTwice(bytes));
    }

    private static boolean tellsTwice(String bytes) {
        Set<String> told = new HashSet<>();
        for (String grant : bytes.split(";")) {
            if (grant.length() == 4 && !told.add(grant.substring(0, 3))) {
                return true;
            }
        }
        return false;
    }

    String[] entries(int text) {
        return texts[text].isEmpty() || fault(text) != -1 ? new String[0] : texts[text].split(";");
    }

    private static int number(String s, int from, int to) {
        return Integer.parseInt(s.substring(from, to));
    }

    // ---- settings

    int setLaw(int v) {
        if (!in(v, 0, 2)) {
            return -2;
        }
        int was = law;
        law = v;
        return was;
    }

    int home(int body, int place) {
        if (!in(body, 0, 5) || !in(place, 0, 9)) {
            return -2;
        }
        int was = homes[body];
        homes[body] = place;
        return was;
    }

    int worth(int person, int hour, int v) {
        if (!in(person, 0, 5) || !in(hour, 0, 23) || !in(v, 0, 9)) {
            return -2;
        }
        int was = worths[person][hour];
        worths[person][hour] = v;
        return was;
    }

    int read(int s, int person) {
        if (!in(s, 0, 3) || !in(person, 0, 5)) {
            return -2;
        }
        if (sheets[s] == null) {
            return finding(1);
        }
        int many = 0;
        for (long item : sheets[s]) {
            if (many == 24 || item < 0 || item > 9) {
                break;
            }
            worths[person][many++] = (int) item;
        }
        return many;
    }

    // ---- who acts

    private int[][] ownersWithout(int left) {
        int[][] owner = new int[6][24];
        for (int body = 0; body < 6; body++) {
            Arrays.fill(owner[body], body);
        }
        String[] grants = entries(0);
        for (int g = 0; g < grants.length; g++) {
            if (g != left) {
                owner[number(grants[g], 0, 1)][number(grants[g], 1, 3)] = number(grants[g], 3, 4);
            }
        }
        return owner;
    }

    private int[][] owners() {
        return ownersWithout(-1);
    }

    private static List<Integer> way(int[][] owner, int body, int hour) {
        List<Integer> way = new ArrayList<>(List.of(body));
        int at = body;
        while (owner[at][hour] != at) {
            at = owner[at][hour];
            if (way.contains(at)) {
                return null;
            }
            way.add(at);
        }
        return way;
    }

    private static int actor(int[][] owner, int law, int body, int hour) {
        if (law == 1) {
            return owner[body][hour];
        }
        List<Integer> way = way(owner, body, hour);
        if (way == null) {
            return law == 0 ? -1 : body;
        }
        return way.get(way.size() - 1);
    }

    private static int wronged(int[][] owner, int law) {
        int all = 0;
        for (int body = 0; body < 6; body++) {
            for (int hour = 0; hour < 24; hour++) {
                all += actor(owner, law, body, hour) == body ? 0 : 1;
            }
        }
        return all;
    }

    private static int held(int[][] owner, int law, int person) {
        int all = 0;
        for (int body = 0; body < 6; body++) {
            for (int hour = 0; hour < 24; hour++) {
                all += actor(owner, law, body, hour) == person ? 1 : 0;
            }
        }
        return all;
    }

    int owns(int body, int hour) {
        return in(body, 0, 5) && in(hour, 0, 23) ? owners()[body][hour] : -2;
    }

    int acts(int body, int hour) {
        return in(body, 0, 5) && in(hour, 0, 23) ? actor(owners(), law, body, hour) : -2;
    }

    int deep(int body, int hour) {
        if (!in(body, 0, 5) || !in(hour, 0, 23)) {
            return -2;
        }
        List<Integer> way = way(owners(), body, hour);
        return way == null ? -1 : way.size() - 1;
    }

    int free(int body) {
        if (!in(body, 0, 5)) {
            return -2;
        }
        int bits = 0;
        for (int hour = 0; hour < 24; hour++) {
            bits += acts(body, hour) == body ? 1 << hour : 0;
        }
        return bits;
    }

    int holds(int person) {
        return in(person, 0, 5) ? held(owners(), law, person) : -2;
    }

    int wronged(int ofLaw) {
        return in(ofLaw, 0, 2) ? wronged(owners(), ofLaw) : -2;
    }

    int gentlest() {
        int least = Math.min(wronged(0), Math.min(wronged(1), wronged(2)));
        return wronged(0) == least ? 0 : wronged(1) == least ? 1 : 2;
    }

    // ---- what is done

    private Set<Integer> obeyed(int byLaw) {
        int[][] owner = owners();
        String[] orders = entries(1);
        Set<Integer> done = new HashSet<>();
        for (int o = 0; o < orders.length; o++) {
            boolean ahead = false;
            for (int p = 0; p < o; p++) {
                ahead |= done.contains(p) && orders[p].substring(1, 4).equals(orders[o].substring(1, 4));
            }
            int actor = actor(owner, byLaw, number(orders[o], 1, 2), number(orders[o], 2, 4));
            if (!ahead && actor == number(orders[o], 0, 1)) {
                done.add(o);
            }
        }
        return done;
    }

    /** The deed, the place and how tired, hour by hour. */
    private int[][] dayOf(int body, int byLaw) {
        int[][] day = new int[24][];
        String[] orders = entries(1);
        Set<Integer> done = obeyed(byLaw);
        int place = homes[body];
        int tired = 0;
        for (int hour = 0; hour < 24; hour++) {
            int deed = 0;
            for (int o : done) {
                if (number(orders[o], 1, 2) == body && number(orders[o], 2, 4) == hour) {
                    deed = number(orders[o], 4, 5);
                }
            }
            int more = deed == 1 ? 2 : deed == 2 || deed == 3 ? 1 : 0;
            if (tired + more > 9) {
                deed = 0;
            }
            tired = deed == 0 ? Math.max(tired - 3, 0) : tired + more;
            if (deed == 2 && place < 9) {
                place++;
            }
            if (deed == 3 && place > 0) {
                place--;
            }
            day[hour] = new int[] {deed, place, tired};
        }
        return day;
    }

    int done(int order) {
        return !in(order, 0, entries(1).length - 1) ? -2 : obeyed(law).contains(order) ? 1 : 0;
    }

    int judged() {
        for (int order = 0; order < entries(1).length; order++) {
            if (done(order) == 0) {
                return order;
            }
        }
        return -1;
    }

    int body(int body, int hour, int what) {
        return in(body, 0, 5) && in(hour, 0, 23) && in(what, 0, 2) ? dayOf(body, law)[hour][what] : -2;
    }

    int met(int a, int b) {
        if (!in(a, 0, 5) || !in(b, 0, 5) || a == b) {
            return -2;
        }
        int[][] one = dayOf(a, law);
        int[][] two = dayOf(b, law);
        int bits = 0;
        for (int hour = 0; hour < 24; hour++) {
            bits += one[hour][1] == two[hour][1] ? 1 << hour : 0;
        }
        return bits;
    }

    int slips(int a, int b) {
        if (!in(a, 0, 5) || !in(b, 0, 5) || a == b) {
            return -2;
        }
        int bits = 0;
        for (int hour = 1; hour < 24; hour++) {
            bits += acts(b, hour) != -1 && acts(b, hour) == acts(a, hour - 1) ? 1 << hour : 0;
        }
        return bits;
    }

    // ---- plans

    int soonest(int person, int n) {
        if (!in(person, 0, 5) || !in(n, 1, 99)) {
            return -2;
        }
        int left = n;
        for (int hour = 0; hour < 24; hour++) {
            for (int body = 0; body < 6; body++) {
                if (acts(body, hour) == person && --left == 0) {
                    return hour;
                }
            }
        }
        return -1;
    }

    int fewest(int person, int n, int what) {
        if (!in(person, 0, 5) || !in(n, 1, 99) || !in(what, 0, 1)) {
            return -2;
        }
        int[] hours = new int[6];
        for (int cell = 0; cell < 144; cell++) {
            hours[cell / 24] += acts(cell / 24, cell % 24) == person ? 1 : 0;
        }
        for (int many = 1; many <= 6; many++) {
            for (int bits = 0; bits < 64; bits++) {
                int all = 0;
                for (int body = 0; body < 6; body++) {
                    all += (bits & 1 << body) != 0 ? hours[body] : 0;
                }
                if (Integer.bitCount(bits) == many && all >= n) {
                    return what == 0 ? many : bits;
                }
            }
        }
        return -1;
    }

    /** From each hour on, the bodies that it can be in, as long as there are any. */
    int run(int person, int what) {
        if (!in(person, 0, 5) || !in(what, 0, 3)) {
            return -2;
        }
        int[][][] days = new int[6][][];
        for (int body = 0; body < 6; body++) {
            days[body] = dayOf(body, law);
        }
        int best = 0;
        int first = -1;
        for (int start = 0; start < 24; start++) {
            Set<Integer> at = bodiesOf(person, start);
            int hour = start;
            while (!at.isEmpty()) {
                hour++;
                Set<Integer> next = hour < 24 ? bodiesOf(person, hour) : new HashSet<>();
                if (what >= 2) {
                    Set<Integer> from = at;
                    int behind = hour - 1;
                    next.removeIf(b -> from.stream().noneMatch(f -> days[f][behind][1] == days[b][behind][1]));
                }
                at = next;
            }
            if (hour - start > best) {
                best = hour - start;
                first = start;
            }
        }
        return what % 2 == 0 ? best : first;
    }

    private Set<Integer> bodiesOf(int person, int hour) {
        Set<Integer> bodies = new HashSet<>();
        for (int body = 0; body < 6; body++) {
            if (acts(body, hour) == person) {
                bodies.add(body);
            }
        }
        return bodies;
    }

    int trade(int a, int hour, int b, int other) {
        int one = owns(a, hour);
        int two = owns(b, other);
        if (one == -2 || two == -2) {
            return -2;
        }
        if (one == two) {
            return -3;
        }
        int gainOne = worths[one][other] - worths[one][hour];
        int gainTwo = worths[two][hour] - worths[two][other];
        return gainOne > 0 && gainTwo > 0 ? 1 : 0;
    }

    int trades() {
        String[] grants = entries(0);
        return pairsOf(grants, Math.min(12, grants.length), 0, new HashMap<>());
    }

    private int pairsOf(String[] grants, int all, int used, Map<Integer, Integer> known) {
        Integer told = known.get(used);
        if (told != null) {
            return told;
        }
        int best = 0;
        for (int i = 0; i < all; i++) {
            for (int j = i + 1; j < all; j++) {
                int both = 1 << i | 1 << j;
                if ((used & both) == 0 && trade(number(grants[i], 0, 1), number(grants[i], 1, 3),
                        number(grants[j], 0, 1), number(grants[j], 1, 3)) == 1) {
                    best = Math.max(best, 1 + pairsOf(grants, all, used | both, known));
                }
            }
        }
        known.put(used, best);
        return best;
    }

    int frees(int grant) {
        if (!in(grant, 0, entries(0).length - 1)) {
            return -1002;
        }
        return wronged(owners(), law) - wronged(ownersWithout(grant), law);
    }

    int word() {
        int best = -1;
        for (int grant = entries(0).length - 1; grant >= 0; grant--) {
            if (best == -1 || frees(grant) >= frees(best)) {
                best = grant;
            }
        }
        return best;
    }

    int heir(int from, int to) {
        if (!in(from, 0, 5) || !in(to, 0, 5) || from == to) {
            return -2;
        }
        int[][] owner = owners();
        for (int body = 0; body < 6; body++) {
            for (int hour = 0; hour < 24; hour++) {
                if (body != from && owner[body][hour] == from) {
                    owner[body][hour] = to;
                }
            }
        }
        return held(owner, law, to);
    }

    // ---- seen

    int seen(int body, int hour, int deed) {
        if (!in(body, 0, 5) || !in(hour, 0, 23) || !in(deed, 0, 4)) {
            return -2;
        }
        if (seen.size() == 8) {
            return -4;
        }
        seen.add(new int[] {body, hour, deed});
        return seen.size();
    }

    int forget() {
        int had = seen.size();
        seen.clear();
        return had;
    }

    int suspects() {
        int bits = 0;
        for (int person = 0; person < 6; person++) {
            boolean all = true;
            for (int[] s : seen) {
                all &= acts(s[0], s[1]) == person;
            }
            bits += all ? 1 << person : 0;
        }
        return bits;
    }

    int likely() {
        int bits = 0;
        for (int l = 0; l < 3; l++) {
            boolean all = true;
            for (int[] s : seen) {
                all &= dayOf(s[0], l)[s[1]][0] == s[2];
            }
            bits += all ? 1 << l : 0;
        }
        return bits;
    }

    // ---- sheets

    int sheet(int s, int form, int n) {
        if (!in(s, 0, 3) || !in(form, 0, 2) || n > 60) {
            return -2;
        }
        if (n < 0) {
            return finding(5);
        }
        sheets[s] = new long[n];
        forms[s] = form;
        return n;
    }

    int lose(int s) {
        if (!in(s, 0, 3)) {
            return -2;
        }
        if (sheets[s] == null) {
            return finding(1);
        }
        int had = sheets[s].length;
        sheets[s] = null;
        return had;
    }

    private static long cut(int form, int v) {
        return form == 0 ? (byte) v : form == 1 ? (short) v : v;
    }

    private int against(int s, int form, int i) {
        return sheets[s] == null ? 1 : forms[s] != form ? 3 : !in(i, 0, sheets[s].length - 1) ? 2 : 0;
    }

    int lay(int s, int form, int i, int v) {
        if (!in(s, 0, 3) || !in(form, 0, 2)) {
            return -2;
        }
        int against = against(s, form, i);
        if (against != 0) {
            return finding(against);
        }
        sheets[s][i] = cut(form, v);
        return 1;
    }

    int get(int s, int form, int i) {
        if (!in(s, 0, 3) || !in(form, 0, 2)) {
            return Integer.MIN_VALUE;
        }
        int against = against(s, form, i);
        if (against != 0) {
            finding(against);
            return Integer.MIN_VALUE;
        }
        return (int) sheets[s][i];
    }

    int copy(int s, int i, int t, int j, int n) {
        if (!in(s, 0, 3) || !in(t, 0, 3)) {
            return -2;
        }
        if (sheets[s] == null || sheets[t] == null) {
            return finding(1);
        }
        if (forms[s] != forms[t]) {
            return finding(4);
        }
        boolean low = i < 0 || j < 0 || n < 0;
        if (low || (long) i + n > sheets[s].length || (long) j + n > sheets[t].length) {
            return finding(2);
        }
        long[] were = sheets[s].clone();
        for (int k = 0; k < n; k++) {
            sheets[t][j + k] = were[i + k];
        }
        return 1;
    }

    int write(int body, int s) {
        if (!in(body, 0, 5) || !in(s, 0, 3)) {
            return -2;
        }
        if (sheets[s] == null) {
            return finding(1);
        }
        int many = 0;
        while (many < 24 && many < sheets[s].length) {
            sheets[s][many] = acts(body, many);
            many++;
        }
        return many;
    }

    int count(int what) {
        int round = 0;
        for (int cell = 0; cell < 144 && what == 7; cell++) {
            round += deep(cell / 24, cell % 24) == -1 ? 1 : 0;
        }
        int[] all = {entries(0).length, entries(1).length, texts[0].length(), texts[1].length(), obeyed(law).size(),
            seen.size(), law, round, finding};
        return in(what, 0, 8) ? all[what] : -2;
    }

    long digest() {
        List<Integer> all = new ArrayList<>();
        for (int what = 0; what <= 7; what++) {
            all.add(count(what));
        }
        all.addAll(List.of(fault(0), fault(1), judged()));
        for (int it = 0; it < 6; it++) {
            all.addAll(List.of(free(it), holds(it)));
            for (int hour : new int[] {0, 9, 20}) {
                all.addAll(List.of(owns(it, hour), acts(it, hour), deep(it, hour)));
                all.addAll(List.of(body(it, hour, 0), body(it, hour, 1), body(it, hour, 2)));
            }
            all.addAll(List.of(soonest(it, 9), fewest(it, 9, 0), fewest(it, 9, 1)));
            all.addAll(List.of(run(it, 0), run(it, 1), run(it, 2), run(it, 3), heir(it, 0)));
        }
        all.addAll(List.of(wronged(0), wronged(1), wronged(2), gentlest(), met(0, 1), slips(0, 1), trades(), word()));
        for (int grant = 0; grant < entries(0).length; grant++) {
            all.add(frees(grant));
        }
        all.addAll(List.of(suspects(), likely()));
        long h = 17;
        for (int part : all) {
            h = 31 * h + part;
        }
        return h;
    }
}
