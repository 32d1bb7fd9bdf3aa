/** All that can be told of an object but for count() 8, in some 250 calls; the object is used up by it. */
final class Snapshot {
    private static final int LEAST = Integer.MIN_VALUE;

    private Snapshot() {
    }

    static String of(OthersHours x) {
        StringBuilder all = new StringBuilder();
        all.append("digest ").append(x.digest());
        for (int s = 0; s < 4; s++) {
            addSheet(all.append(" sheet ").append(s), x, s);
        }
        all.append(" seen ").append(x.forget());
        for (int person = 0; person < 6; person++) {
            all.append(" home ").append(x.home(person, 0)).append(" worth");
            for (int hour = 0; hour < 24; hour++) {
                all.append(' ').append(x.worth(person, hour, 0));
            }
        }
        return all.toString();
    }

    /** Item 60 is never there, so the finding tells the form; no test lays the least int. */
    private static void addSheet(StringBuilder all, OthersHours x, int s) {
        for (int form = 0; form < 3; form++) {
            x.get(s, form, 60);
            all.append(' ').append(x.count(8));
            int item = x.get(s, form, 0);
            for (int i = 1; item != LEAST; i++) {
                all.append(' ').append(item);
                item = x.get(s, form, i);
            }
        }
        all.append(" of ").append(x.lose(s));
    }
}
