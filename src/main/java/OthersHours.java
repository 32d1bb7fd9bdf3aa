import java.util.Arrays;

/**
 * Everybody's hour is another's: grants tell whose each hour of each body is, a law tells who acts
 * in it in the end, orders tell what is done there. The promises stand in ../shared/DOC.md.
 *
 * Every row is made with the object and used again, so that no call makes a new one. The public
 * methods look at each number; what is inside gets only numbers that they have let through.
 */
public final class OthersHours {
    public static final int NONE = -1, BAD = -2, NOT = -3, FULL = -4;

    private static final int PERSONS = 6;
    private static final int HOURS = 24;
    /** An hour of a body (or of a person) is a cell: the body's number times HOURS, and the hour. */
    private static final int CELLS = PERSONS * HOURS;
    private static final int EVERYBODY = (1 << PERSONS) - 1;

    private static final int TEXTS = 2;
    private static final int TEXT_BYTES = 99;
    private static final int BYTE_VALUES = 256;

    private static final int LAWS = 3;
    private static final int LAW_OF_OWNERS = 1;
    private static final int LAW_OF_RINGS = 2;

    private static final int DEEDS = 5;
    private static final int REST = 0;
    private static final int WALK_UP = 2;
    private static final int WALK_DOWN = 3;
    private static final int[] TOIL = {-3, 2, 1, 1, 0};
    private static final int TIRED_MOST = 9;
    private static final int PLACES = 10;

    private static final int WORTHS = 10;
    private static final int WORK_MOST = 99;
    private static final int TRADED_GRANTS = 12;
    private static final int SEEN_MOST = 8;
    private static final int[] DIGEST_HOURS = {0, 9, 20};
    private static final int ANY_NUMBER_BAD = -1000 + BAD;
    private static final int LEAST_INT = -2147483648;

    private static final int SHEETS = 4;
    private static final int FORMS = 3;
    private static final int BYTES = 0;
    private static final int SHORTS = 1;
    private static final int ITEMS_MOST = 60;

    private static final int NULL = 1;
    private static final int INDEX = 2;
    private static final int CAST = 3;
    private static final int STORE = 4;
    private static final int SIZE = 5;

    private final Text grants;
    private final Text orders;
    private final Owners owners;
    /** The owners as they would be, were something else told; it is filled anew for each question. */
    private final Owners supposed;
    private final Day[] days;
    private final int[] homes;
    private final int[] worths;
    private final int[] spans;
    private final int[] mates;
    private final int[] seenCells;
    private final int[] seenDeeds;
    private final Sheet[] sheets;
    private int seenCount;
    private int law;
    private int finding;

    public OthersHours() {
        grants = new Text(1, PERSONS, true);
        orders = new Text(2, DEEDS, false);
        owners = new Owners();
        supposed = new Owners();
        days = new Day[LAWS];
        for (int l = 0; l < LAWS; l++) {
            days[l] = new Day(l);
        }
        homes = new int[PERSONS];
        worths = new int[CELLS];
        spans = new int[PERSONS];
        mates = new int[TRADED_GRANTS];
        seenCells = new int[SEEN_MOST];
        seenDeeds = new int[SEEN_MOST];
        sheets = new Sheet[SHEETS];
        for (int s = 0; s < SHEETS; s++) {
            sheets[s] = new Sheet();
        }
    }

    // ---- grants, orders

    public int type(int text, int b) {
        if (!isBelow(text, TEXTS) || !isBelow(b, BYTE_VALUES)) {
            return BAD;
        }
        Text told = textOf(text);
        if (told.length >= TEXT_BYTES) {
            return FULL;
        }
        told.append(b);
        settleTexts();
        return told.length;
    }

    public int wipe(int text) {
        if (!isBelow(text, TEXTS)) {
            return BAD;
        }
        Text told = textOf(text);
        int had = told.length;
        told.clear();
        settleTexts();
        return had;
    }

    public int undo(int text) {
        if (!isBelow(text, TEXTS)) {
            return BAD;
        }
        Text told = textOf(text);
        if (told.entries() == 0) {
            return NOT;
        }
        told.dropLast();
        settleTexts();
        return told.entries();
    }

    public int fault(int text) {
        return isBelow(text, TEXTS) ? textOf(text).flaw() : BAD;
    }

    public int setLaw(int v) {
        if (!isBelow(v, LAWS)) {
            return BAD;
        }
        int was = law;
        law = v;
        return was;
    }

    public int home(int body, int place) {
        if (!isBelow(body, PERSONS) || !isBelow(place, PLACES)) {
            return BAD;
        }
        int was = homes[body];
        homes[body] = place;
        ageDays();
        return was;
    }

    public int worth(int person, int hour, int v) {
        if (!isCell(person, hour) || !isBelow(v, WORTHS)) {
            return BAD;
        }
        int was = worths[cell(person, hour)];
        worths[cell(person, hour)] = v;
        return was;
    }

    public int read(int s, int person) {
        if (!isBelow(s, SHEETS) || !isBelow(person, PERSONS)) {
            return BAD;
        }
        Sheet from = sheets[s];
        if (from.isLost()) {
            return found(NULL);
        }
        int end = Math.min(from.size, HOURS);
        int hour = 0;
        while (hour < end && isBelow(from.items[hour], WORTHS)) {
            worths[cell(person, hour)] = from.items[hour];
            hour++;
        }
        return hour;
    }

    // ---- who acts

    public int owns(int body, int hour) {
        return isCell(body, hour) ? owners.owner(body, hour) : BAD;
    }

    public int acts(int body, int hour) {
        return isCell(body, hour) ? dayBy(law).actors[cell(body, hour)] : BAD;
    }

    public int deep(int body, int hour) {
        return isCell(body, hour) ? owners.steps(body, hour) : BAD;
    }

    public int free(int body) {
        if (!isBelow(body, PERSONS)) {
            return BAD;
        }
        Day day = dayBy(law);
        int bits = 0;
        for (int hour = 0; hour < HOURS; hour++) {
            if (day.actors[cell(body, hour)] == body) {
                bits |= 1 << hour;
            }
        }
        return bits;
    }

    public int holds(int person) {
        if (!isBelow(person, PERSONS)) {
            return BAD;
        }
        Day day = dayBy(law);
        int held = 0;
        for (int c = 0; c < CELLS; c++) {
            if (day.actors[c] == person) {
                held++;
            }
        }
        return held;
    }

    public int wronged(int law) {
        if (!isBelow(law, LAWS)) {
            return BAD;
        }
        int all = 0;
        for (int hour = 0; hour < HOURS; hour++) {
            all += owners.wrongedIn(law, hour);
        }
        return all;
    }

    public int gentlest() {
        int best = 0;
        int fewestWronged = wronged(0);
        for (int l = 1; l < LAWS; l++) {
            int now = wronged(l);
            if (now < fewestWronged) {
                best = l;
                fewestWronged = now;
            }
        }
        return best;
    }

    // ---- what is done

    public int done(int order) {
        if (!isBelow(order, orders.entries())) {
            return BAD;
        }
        return dayBy(law).isObeyed(order) ? 1 : 0;
    }

    public int judged() {
        Day day = dayBy(law);
        int all = orders.entries();
        for (int order = 0; order < all; order++) {
            if (!day.isObeyed(order)) {
                return order;
            }
        }
        return NONE;
    }

    public int body(int body, int hour, int what) {
        if (!isCell(body, hour)) {
            return BAD;
        }
        switch (what) {
            case 0: return dayBy(law).deeds[cell(body, hour)];
            case 1: return dayBy(law).places[cell(body, hour)];
            case 2: return dayBy(law).tired[cell(body, hour)];
            default: return BAD;
        }
    }

    public int met(int a, int b) {
        if (!areTwo(a, b)) {
            return BAD;
        }
        Day day = dayBy(law);
        int bits = 0;
        for (int hour = 0; hour < HOURS; hour++) {
            if (day.places[cell(a, hour)] == day.places[cell(b, hour)]) {
                bits |= 1 << hour;
            }
        }
        return bits;
    }

    public int slips(int a, int b) {
        if (!areTwo(a, b)) {
            return BAD;
        }
        Day day = dayBy(law);
        int bits = 0;
        for (int hour = 1; hour < HOURS; hour++) {
            int actor = day.actors[cell(b, hour)];
            if (actor != NONE && actor == day.actors[cell(a, hour - 1)]) {
                bits |= 1 << hour;
            }
        }
        return bits;
    }

    // ---- plans

    public int soonest(int person, int n) {
        if (!isBelow(person, PERSONS) || !isWork(n)) {
            return BAD;
        }
        Day day = dayBy(law);
        int worked = 0;
        for (int hour = 0; hour < HOURS; hour++) {
            worked += day.bodiesOf(person, hour);
            if (worked >= n) {
                return hour;
            }
        }
        return NONE;
    }

    public int fewest(int person, int n, int what) {
        if (!isBelow(person, PERSONS) || !isWork(n) || !isBelow(what, 2)) {
            return BAD;
        }
        int bits = fewestBodies(dayBy(law), person, n);
        return bits == NONE || what == 1 ? bits : Integer.bitCount(bits);
    }

    public int run(int person, int what) {
        if (!isBelow(person, PERSONS)) {
            return BAD;
        }
        switch (what) {
            case 0: return dayBy(law).longestRow(person, false);
            case 1: return dayBy(law).firstOfRow(person, false);
            case 2: return dayBy(law).longestRow(person, true);
            case 3: return dayBy(law).firstOfRow(person, true);
            default: return BAD;
        }
    }

    public int trade(int a, int hour, int b, int other) {
        if (!isCell(a, hour) || !isCell(b, other)) {
            return BAD;
        }
        int one = owners.owner(a, hour);
        int two = owners.owner(b, other);
        if (one == two) {
            return NOT;
        }
        return bothGain(one, hour, two, other) ? 1 : 0;
    }

    public int trades() {
        int all = Math.min(grants.entries(), TRADED_GRANTS);
        for (int one = 0; one < all; one++) {
            mates[one] = matesOf(one, all);
        }
        return mostPairs(mates, 0, (1 << all) - 1);
    }

    public int frees(int grant) {
        return isBelow(grant, grants.entries()) ? freedBy(grant) : ANY_NUMBER_BAD;
    }

    public int word() {
        int all = grants.entries();
        int best = NONE;
        int most = 0;
        for (int grant = 0; grant < all; grant++) {
            int freed = freedBy(grant);
            if (best == NONE || freed > most) {
                best = grant;
                most = freed;
            }
        }
        return best;
    }

    public int heir(int from, int to) {
        if (!areTwo(from, to)) {
            return BAD;
        }
        supposed.takeFrom(owners);
        supposed.bequeath(from, to);
        int held = 0;
        for (int body = 0; body < PERSONS; body++) {
            for (int hour = 0; hour < HOURS; hour++) {
                if (supposed.actor(law, body, hour) == to) {
                    held++;
                }
            }
        }
        return held;
    }

    // ---- seen

    public int seen(int body, int hour, int deed) {
        if (!isCell(body, hour) || !isBelow(deed, DEEDS)) {
            return BAD;
        }
        if (seenCount >= SEEN_MOST) {
            return FULL;
        }
        seenCells[seenCount] = cell(body, hour);
        seenDeeds[seenCount] = deed;
        seenCount++;
        return seenCount;
    }

    public int forget() {
        int had = seenCount;
        seenCount = 0;
        return had;
    }

    public int suspects() {
        Day day = dayBy(law);
        int bits = EVERYBODY;
        for (int i = 0; i < seenCount; i++) {
            int actor = day.actors[seenCells[i]];
            bits &= actor == NONE ? 0 : 1 << actor;
        }
        return bits;
    }

    public int likely() {
        int bits = 0;
        for (int l = 0; l < LAWS; l++) {
            if (explainsSeen(dayBy(l))) {
                bits |= 1 << l;
            }
        }
        return bits;
    }

    // ---- sheets

    public int sheet(int s, int form, int n) {
        if (!isBelow(s, SHEETS) || !isBelow(form, FORMS) || n > ITEMS_MOST) {
            return BAD;
        }
        if (n < 0) {
            return found(SIZE);
        }
        sheets[s].renew(form, n);
        return n;
    }

    public int lose(int s) {
        if (!isBelow(s, SHEETS)) {
            return BAD;
        }
        if (sheets[s].isLost()) {
            return found(NULL);
        }
        int had = sheets[s].size;
        sheets[s].size = NONE;
        return had;
    }

    public int lay(int s, int form, int i, int v) {
        if (!isBelow(s, SHEETS) || !isBelow(form, FORMS)) {
            return BAD;
        }
        int wrong = sheets[s].findingAt(form, i);
        if (wrong != 0) {
            return found(wrong);
        }
        sheets[s].put(i, v);
        return 1;
    }

    public int get(int s, int form, int i) {
        if (!isBelow(s, SHEETS) || !isBelow(form, FORMS)) {
            return LEAST_INT;
        }
        int wrong = sheets[s].findingAt(form, i);
        if (wrong != 0) {
            finding = wrong;
            return LEAST_INT;
        }
        return sheets[s].items[i];
    }

    public int copy(int s, int i, int t, int j, int n) {
        if (!isBelow(s, SHEETS) || !isBelow(t, SHEETS)) {
            return BAD;
        }
        Sheet from = sheets[s];
        Sheet to = sheets[t];
        if (from.isLost() || to.isLost()) {
            return found(NULL);
        }
        if (from.form != to.form) {
            return found(STORE);
        }
        if (!from.hasItems(i, n) || !to.hasItems(j, n)) {
            return found(INDEX);
        }
        System.arraycopy(from.items, i, to.items, j, n);
        return 1;
    }

    public int write(int body, int s) {
        if (!isBelow(body, PERSONS) || !isBelow(s, SHEETS)) {
            return BAD;
        }
        Sheet to = sheets[s];
        if (to.isLost()) {
            return found(NULL);
        }
        Day day = dayBy(law);
        int end = Math.min(to.size, HOURS);
        for (int hour = 0; hour < end; hour++) {
            to.put(hour, day.actors[cell(body, hour)]);
        }
        return end;
    }

    public int count(int what) {
        switch (what) {
            case 0: return grants.entries();
            case 1: return orders.entries();
            case 2: return grants.length;
            case 3: return orders.length;
            case 4: return Integer.bitCount(dayBy(law).obeyed);
            case 5: return seenCount;
            case 6: return law;
            case 7: return owners.rounds();
            case 8: return finding;
            default: return BAD;
        }
    }

    public long digest() {
        long h = 17;
        for (int what = 0; what < 8; what++) {
            h = mix(h, count(what));
        }
        for (int text = 0; text < TEXTS; text++) {
            h = mix(h, fault(text));
        }
        h = mix(h, judged());
        for (int person = 0; person < PERSONS; person++) {
            h = mixPerson(h, person);
        }
        for (int l = 0; l < LAWS; l++) {
            h = mix(h, wronged(l));
        }
        h = mix(h, gentlest());
        h = mix(h, met(0, 1));
        h = mix(h, slips(0, 1));
        h = mix(h, trades());
        h = mix(h, word());
        int all = grants.entries();
        for (int grant = 0; grant < all; grant++) {
            h = mix(h, frees(grant));
        }
        h = mix(h, suspects());
        return mix(h, likely());
    }

    // ---- what the public methods share

    private static boolean isBelow(int v, int end) {
        return v >= 0 && v < end;
    }

    private static boolean isCell(int body, int hour) {
        return isBelow(body, PERSONS) && isBelow(hour, HOURS);
    }

    private static boolean areTwo(int a, int b) {
        return isBelow(a, PERSONS) && isBelow(b, PERSONS) && a != b;
    }

    private static boolean isWork(int n) {
        return n >= 1 && n <= WORK_MOST;
    }

    private static int cell(int body, int hour) {
        return body * HOURS + hour;
    }

    private static long mix(long h, long v) {
        return 31 * h + v;
    }

    private Text textOf(int text) {
        return text == 0 ? grants : orders;
    }

    private void settleTexts() {
        owners.tell(grants);
        ageDays();
    }

    private void ageDays() {
        for (int l = 0; l < LAWS; l++) {
            days[l].stale = true;
        }
    }

    /** Days are lived only when one is asked for: texts come byte by byte, mostly unasked. */
    private Day dayBy(int oneLaw) {
        Day day = days[oneLaw];
        if (day.stale) {
            day.live(owners, orders, homes);
        }
        return day;
    }

    private int found(int number) {
        finding = number;
        return -10 - number;
    }

    private int fewestBodies(Day day, int person, int n) {
        for (int body = 0; body < PERSONS; body++) {
            spans[body] = day.hoursIn(body, person);
        }
        int best = NONE;
        for (int bits = 1; bits <= EVERYBODY; bits++) {
            boolean fewer = best == NONE || Integer.bitCount(bits) < Integer.bitCount(best);
            if (fewer && spanOf(bits) >= n) {
                best = bits;
            }
        }
        return best;
    }

    private int spanOf(int bits) {
        int span = 0;
        for (int body = 0; body < PERSONS; body++) {
            if ((bits >> body & 1) == 1) {
                span += spans[body];
            }
        }
        return span;
    }

    private boolean bothGain(int one, int hour, int two, int other) {
        return worths[cell(one, other)] > worths[cell(one, hour)]
            && worths[cell(two, hour)] > worths[cell(two, other)];
    }

    private int matesOf(int one, int all) {
        int bits = 0;
        for (int two = 0; two < all; two++) {
            if (bothGain(grants.lastOf(one), grants.hourOf(one), grants.lastOf(two), grants.hourOf(two))) {
                bits |= 1 << two;
            }
        }
        return bits;
    }

    /**
     * One that has a mate left is always set with one of them: had a best match left it out, its
     * mate would be in another pair there, and taking it from that pair loses nothing.
     */
    private static int mostPairs(int[] mates, int one, int rest) {
        if (one >= TRADED_GRANTS) {
            return 0;
        }
        int others = rest & ~(1 << one);
        int open = (rest >> one & 1) == 1 ? mates[one] & others : 0;
        if (open == 0) {
            return mostPairs(mates, one + 1, others);
        }
        int bound = Integer.bitCount(rest) >> 1;
        int most = 0;
        for (int two = one + 1; two < TRADED_GRANTS && most < bound; two++) {
            if ((open >> two & 1) == 1) {
                most = Math.max(most, 1 + mostPairs(mates, one + 1, others & ~(1 << two)));
            }
        }
        return most;
    }

    /** A grant bears on its own hour alone, so only that hour is judged again. */
    private int freedBy(int grant) {
        int hour = grants.hourOf(grant);
        int body = grants.bodyOf(grant);
        supposed.takeFrom(owners);
        supposed.setOwner(body, hour, body);
        return owners.wrongedIn(law, hour) - supposed.wrongedIn(law, hour);
    }

    private boolean explainsSeen(Day day) {
        for (int i = 0; i < seenCount; i++) {
            if (day.deeds[seenCells[i]] != seenDeeds[i]) {
                return false;
            }
        }
        return true;
    }

    private long mixPerson(long before, int person) {
        long h = mix(before, free(person));
        h = mix(h, holds(person));
        for (int i = 0; i < DIGEST_HOURS.length; i++) {
            int hour = DIGEST_HOURS[i];
            h = mix(h, owns(person, hour));
            h = mix(h, acts(person, hour));
            h = mix(h, deep(person, hour));
            for (int what = 0; what < 3; what++) {
                h = mix(h, body(person, hour, what));
            }
        }
        h = mix(h, soonest(person, 9));
        h = mix(h, fewest(person, 9, 0));
        h = mix(h, fewest(person, 9, 1));
        for (int what = 0; what < 4; what++) {
            h = mix(h, run(person, what));
        }
        return mix(h, heir(person, 0));
    }

    /**
     * Grants or orders as they are typed. An entry is some figures of persons and bodies (the body
     * last of them), two of an hour, and a last figure; with the ; behind it each takes one step.
     * That there are twenty at most needs no test: 99 bytes hold no byte of a twenty-first.
     */
    private static final class Text {
        final int[] bytes;
        final int lead;
        final int step;
        final int lastEnd;
        final boolean once;
        int length;
        int broken;

        Text(int lead, int lastEnd, boolean once) {
            this.bytes = new int[TEXT_BYTES];
            this.lead = lead;
            this.step = lead + 4;
            this.lastEnd = lastEnd;
            this.once = once;
            this.broken = NONE;
        }

        void append(int b) {
            if (broken == NONE && !canGoOn(b)) {
                broken = length;
            }
            bytes[length] = b;
            length++;
        }

        void clear() {
            length = 0;
            broken = NONE;
        }

        /** The first entry has no ; ahead of it, so there a step is one byte too long. */
        void dropLast() {
            length = Math.max(0, length - step);
        }

        int flaw() {
            if (broken != NONE) {
                return broken;
            }
            return length == 0 || length % step == step - 1 ? NONE : length;
        }

        int entries() {
            return flaw() == NONE ? (length + 1) / step : 0;
        }

        int firstOf(int entry) {
            return figure(entry, 0);
        }

        int bodyOf(int entry) {
            return figure(entry, lead - 1);
        }

        int hourOf(int entry) {
            return 10 * figure(entry, lead) + figure(entry, lead + 1);
        }

        int lastOf(int entry) {
            return figure(entry, lead + 2);
        }

        private int figure(int entry, int at) {
            return bytes[entry * step + at] - '0';
        }

        private boolean canGoOn(int b) {
            int entry = length / step;
            int at = length % step;
            if (at == step - 1) {
                return b == ';';
            }
            return isBelow(b - '0', figureEnd(entry, at)) && !(at == lead + 2 && once && isToldAhead(entry));
        }

        private int figureEnd(int entry, int at) {
            if (at < lead) {
                return PERSONS;
            }
            if (at == lead) {
                return 3;
            }
            if (at == lead + 1) {
                return figure(entry, lead) == 2 ? 4 : 10;
            }
            return lastEnd;
        }

        private boolean isToldAhead(int entry) {
            for (int ahead = 0; ahead < entry; ahead++) {
                if (bodyOf(ahead) == bodyOf(entry) && hourOf(ahead) == hourOf(entry)) {
                    return true;
                }
            }
            return false;
        }
    }

    /** Who owns each hour of each body, and who acts there by each law. */
    private static final class Owners {
        final int[] table;

        Owners() {
            table = new int[CELLS];
            for (int c = 0; c < CELLS; c++) {
                table[c] = c / HOURS;
            }
        }

        void tell(Text grants) {
            for (int body = 0; body < PERSONS; body++) {
                Arrays.fill(table, body * HOURS, (body + 1) * HOURS, body);
            }
            int all = grants.entries();
            for (int grant = 0; grant < all; grant++) {
                setOwner(grants.bodyOf(grant), grants.hourOf(grant), grants.lastOf(grant));
            }
        }

        void takeFrom(Owners from) {
            System.arraycopy(from.table, 0, table, 0, CELLS);
        }

        void setOwner(int body, int hour, int person) {
            table[cell(body, hour)] = person;
        }

        void bequeath(int from, int to) {
            for (int c = 0; c < CELLS; c++) {
                if (table[c] == from && c / HOURS != from) {
                    table[c] = to;
                }
            }
        }

        int owner(int body, int hour) {
            return table[cell(body, hour)];
        }

        /** From owner to owner till one owns itself; as many steps as there are bodies come round. */
        int steps(int body, int hour) {
            int at = body;
            for (int n = 0; n < PERSONS; n++) {
                int next = owner(at, hour);
                if (next == at) {
                    return n;
                }
                at = next;
            }
            return NONE;
        }

        int actor(int law, int body, int hour) {
            if (law == LAW_OF_OWNERS) {
                return owner(body, hour);
            }
            int at = body;
            for (int n = 0; n < PERSONS; n++) {
                at = owner(at, hour);
            }
            if (owner(at, hour) == at) {
                return at;
            }
            return law == LAW_OF_RINGS ? body : NONE;
        }

        int wrongedIn(int law, int hour) {
            int all = 0;
            for (int body = 0; body < PERSONS; body++) {
                if (actor(law, body, hour) != body) {
                    all++;
                }
            }
            return all;
        }

        int rounds() {
            int all = 0;
            for (int body = 0; body < PERSONS; body++) {
                for (int hour = 0; hour < HOURS; hour++) {
                    if (steps(body, hour) == NONE) {
                        all++;
                    }
                }
            }
            return all;
        }
    }

    /** What comes of grants, orders and homes by one law: who acts, what is done, where and how. */
    private static final class Day {
        final int law;
        final int[] actors;
        final int[] deeds;
        final int[] places;
        final int[] tired;
        /** Of the row of hours that ends in this hour with each body, how long it is. */
        final int[] rows;
        final int[] rowsAhead;
        int obeyed;
        boolean stale;

        Day(int law) {
            this.law = law;
            actors = new int[CELLS];
            deeds = new int[CELLS];
            places = new int[CELLS];
            tired = new int[CELLS];
            rows = new int[PERSONS];
            rowsAhead = new int[PERSONS];
            stale = true;
        }

        void live(Owners owners, Text orders, int[] homes) {
            for (int c = 0; c < CELLS; c++) {
                actors[c] = owners.actor(law, c / HOURS, c % HOURS);
            }
            obey(orders);
            for (int body = 0; body < PERSONS; body++) {
                spend(body, homes[body]);
            }
            stale = false;
        }

        /** A told rest keeps later orders out, an untold one does not: till here that is NONE. */
        private void obey(Text orders) {
            Arrays.fill(deeds, NONE);
            obeyed = 0;
            int all = orders.entries();
            for (int order = 0; order < all; order++) {
                int c = cell(orders.bodyOf(order), orders.hourOf(order));
                if (actors[c] == orders.firstOf(order) && deeds[c] == NONE) {
                    deeds[c] = orders.lastOf(order);
                    obeyed |= 1 << order;
                }
            }
        }

        private void spend(int body, int home) {
            int place = home;
            int weary = 0;
            for (int c = cell(body, 0); c < cell(body, HOURS); c++) {
                int deed = deeds[c] == NONE ? REST : deeds[c];
                if (weary + TOIL[deed] > TIRED_MOST) {
                    deed = REST;
                }
                weary = Math.max(0, weary + TOIL[deed]);
                if (deed == WALK_UP) {
                    place = Math.min(PLACES - 1, place + 1);
                } else if (deed == WALK_DOWN) {
                    place = Math.max(0, place - 1);
                }
                deeds[c] = deed;
                places[c] = place;
                tired[c] = weary;
            }
        }

        boolean isObeyed(int order) {
            return (obeyed >> order & 1) == 1;
        }

        int bodiesOf(int person, int hour) {
            int all = 0;
            for (int body = 0; body < PERSONS; body++) {
                if (actors[cell(body, hour)] == person) {
                    all++;
                }
            }
            return all;
        }

        int hoursIn(int body, int person) {
            int all = 0;
            for (int hour = 0; hour < HOURS; hour++) {
                if (actors[cell(body, hour)] == person) {
                    all++;
                }
            }
            return all;
        }

        int longestRow(int person, boolean flight) {
            int longest = 0;
            for (int hour = 0; hour < HOURS; hour++) {
                longest = Math.max(longest, rowTo(person, hour, flight));
            }
            return longest;
        }

        int firstOfRow(int person, boolean flight) {
            int longest = 0;
            int first = NONE;
            for (int hour = 0; hour < HOURS; hour++) {
                int now = rowTo(person, hour, flight);
                if (now > longest) {
                    longest = now;
                    first = hour - now + 1;
                }
            }
            return first;
        }

        /** Carries the rows on by this hour, from hour 0 on; the longest that ends in it. */
        private int rowTo(int person, int hour, boolean flight) {
            System.arraycopy(rows, 0, rowsAhead, 0, PERSONS);
            int longest = 0;
            for (int body = 0; body < PERSONS; body++) {
                boolean in = actors[cell(body, hour)] == person;
                rows[body] = in ? 1 + rowAhead(body, hour, flight) : 0;
                longest = Math.max(longest, rows[body]);
            }
            return longest;
        }

        /** No row is ahead of hour 0: what rows hold then is left from an earlier question. */
        private int rowAhead(int body, int hour, boolean flight) {
            int longest = 0;
            for (int from = 0; from < PERSONS && hour > 0; from++) {
                if (!flight || places[cell(from, hour - 1)] == places[cell(body, hour - 1)]) {
                    longest = Math.max(longest, rowsAhead[from]);
                }
            }
            return longest;
        }
    }

    /** A row of items, or lost; its items are ints that have been cut to what its form holds. */
    private static final class Sheet {
        final int[] items;
        int form;
        int size;

        Sheet() {
            items = new int[ITEMS_MOST];
            size = NONE;
        }

        boolean isLost() {
            return size == NONE;
        }

        void renew(int newForm, int newSize) {
            form = newForm;
            size = newSize;
            Arrays.fill(items, 0);
        }

        /** What forbids the use of an item as one of a form: a finding's number, 0 if nothing. */
        int findingAt(int asForm, int i) {
            if (isLost()) {
                return NULL;
            }
            if (form != asForm) {
                return CAST;
            }
            return isBelow(i, size) ? 0 : INDEX;
        }

        /** Told by what is left behind i, for i and n together may be more than an int holds. */
        boolean hasItems(int i, int n) {
            return i >= 0 && n >= 0 && i <= size && n <= size - i;
        }

        void put(int i, int v) {
            if (form == BYTES) {
                items[i] = (byte) v;
            } else if (form == SHORTS) {
                items[i] = (short) v;
            } else {
                items[i] = v;
            }
        }
    }
}
