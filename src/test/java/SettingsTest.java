/** Promises 6 to 9: setLaw, home, worth, read. */
public final class SettingsTest {
    private static final Checks CHECKS = new Checks("SettingsTest");

    public static void main(String[] args) {
        laws();
        homes();
        worths();
        reading();
        CHECKS.end();
    }

    private static void laws() {
        OthersHours x = new OthersHours();
        CHECKS.due("setLaw(2)", x.setLaw(2), 0);
        CHECKS.due("setLaw(-1)", x.setLaw(-1), -2);
        CHECKS.due("setLaw(3)", x.setLaw(3), -2);
        CHECKS.due("count(6)", x.count(6), 2);
        CHECKS.due("setLaw(1)", x.setLaw(1), 2);
        CHECKS.due("setLaw(1) again", x.setLaw(1), 1);
        CHECKS.due("setLaw(0)", x.setLaw(0), 1);
    }

    private static void homes() {
        OthersHours x = new OthersHours();
        CHECKS.due("home(-1, 0)", x.home(-1, 0), -2);
        CHECKS.due("home(6, 0)", x.home(6, 0), -2);
        CHECKS.due("home(0, -1)", x.home(0, -1), -2);
        CHECKS.due("home(0, 10)", x.home(0, 10), -2);
        CHECKS.due("body(5, 0, 1)", x.body(5, 0, 1), 0);
        CHECKS.due("home(5, 9)", x.home(5, 9), 0);
        CHECKS.due("body(5, 0, 1) then", x.body(5, 0, 1), 9);
        CHECKS.due("body(4, 0, 1)", x.body(4, 0, 1), 0);
        x.setLaw(1);
        CHECKS.due("home(5, 3)", x.home(5, 3), 9);
        CHECKS.due("body(5, 23, 1)", x.body(5, 23, 1), 3);
        x.setLaw(0);
        CHECKS.due("body(5, 23, 1) by the other law", x.body(5, 23, 1), 3);
        CHECKS.due("home(0, 0)", x.home(0, 0), 0);
        CHECKS.due("home(5, 0)", x.home(5, 0), 3);
    }

    private static void worths() {
        OthersHours x = new OthersHours();
        CHECKS.due("worth(-1, 0, 0)", x.worth(-1, 0, 0), -2);
        CHECKS.due("worth(6, 0, 0)", x.worth(6, 0, 0), -2);
        CHECKS.due("worth(0, -1, 0)", x.worth(0, -1, 0), -2);
        CHECKS.due("worth(0, 24, 0)", x.worth(0, 24, 0), -2);
        CHECKS.due("worth(0, 0, -1)", x.worth(0, 0, -1), -2);
        CHECKS.due("worth(0, 0, 10)", x.worth(0, 0, 10), -2);
        for (int person = 0; person < 6; person++) {
            for (int hour = 0; hour < 24; hour++) {
                CHECKS.due("worth at first", x.worth(person, hour, (person * 5 + hour) % 10), 0);
            }
        }
        for (int person = 0; person < 6; person++) {
            for (int hour = 0; hour < 24; hour++) {
                CHECKS.due("worth then", x.worth(person, hour, 0), (person * 5 + hour) % 10);
            }
        }
    }

    private static void reading() {
        OthersHours x = new OthersHours();
        CHECKS.due("read(-1, 0)", x.read(-1, 0), -2);
        CHECKS.due("read(4, 0)", x.read(4, 0), -2);
        CHECKS.due("read(0, -1) of a lost one", x.read(0, -1), -2);
        CHECKS.due("read(0, 6) of a lost one", x.read(0, 6), -2);
        CHECKS.due("count(8)", x.count(8), 0);
        CHECKS.due("read(0, 0) of a lost one", x.read(0, 0), -11);
        CHECKS.due("count(8) then", x.count(8), 1);
        x.sheet(0, 2, 0);
        CHECKS.due("read(0, 0) of none", x.read(0, 0), 0);
        x.sheet(0, 0, 60);
        for (int i = 0; i < 60; i++) {
            x.lay(0, 0, i, 1 + i % 9);
        }
        CHECKS.due("read(0, 5) of sixty", x.read(0, 5), 24);
        for (int hour = 0; hour < 24; hour++) {
            CHECKS.due("worth(5, " + hour + ", 0)", x.worth(5, hour, 0), 1 + hour % 9);
        }
        x.worth(2, 3, 7);
        x.worth(2, 4, 8);
        x.lay(0, 0, 3, -1);
        CHECKS.due("read(0, 2) up to one below 0", x.read(0, 2), 3);
        CHECKS.due("worth(2, 2, 0)", x.worth(2, 2, 0), 3);
        CHECKS.due("worth(2, 3, 0) stayed", x.worth(2, 3, 0), 7);
        CHECKS.due("worth(2, 4, 0) stayed", x.worth(2, 4, 0), 8);
        x.lay(0, 0, 0, 10);
        CHECKS.due("read(0, 2) of one above 9", x.read(0, 2), 0);
        CHECKS.due("worth(2, 0, 0) stayed", x.worth(2, 0, 0), 1);
        x.sheet(1, 1, 2);
        x.lay(1, 1, 0, 9);
        CHECKS.due("read(1, 4) of two", x.read(1, 4), 2);
        CHECKS.due("worth(4, 0, 0)", x.worth(4, 0, 0), 9);
    }
}
