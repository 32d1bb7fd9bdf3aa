/** Promises 1 to 5: a new object, type, wipe, undo, fault. */
public final class TextsTest {
    private static final Checks CHECKS = new Checks("TextsTest");
    private static final String TWENTY = "0000;0011;0022;0033;0044;0055;0060;0071;0082;0093;"
        + "0104;0115;0120;0131;0142;0153;0164;0175;0180;0191";

    public static void main(String[] args) {
        newObject();
        typing();
        wiping();
        undoing();
        grantFaults();
        orderFaults();
        faultyIsEmpty();
        CHECKS.end();
    }

    private static void newObject() {
        OthersHours x = new OthersHours();
        for (int what = 0; what <= 8; what++) {
            CHECKS.due("new: count(" + what + ")", x.count(what), 0);
        }
        for (int s = 0; s < 4; s++) {
            CHECKS.due("new: lose(" + s + ")", x.lose(s), -11);
        }
        for (int body = 0; body < 6; body++) {
            CHECKS.due("new: home", x.home(body, 0), 0);
            for (int hour = 0; hour < 24; hour++) {
                CHECKS.due("new: owns", x.owns(body, hour), body);
                CHECKS.due("new: worth", x.worth(body, hour, 0), 0);
            }
        }
        CHECKS.due("new: setLaw(0)", x.setLaw(0), 0);
        CHECKS.due("new: fault(0)", x.fault(0), -1);
        CHECKS.due("new: fault(1)", x.fault(1), -1);
    }

    private static void typing() {
        OthersHours x = new OthersHours();
        CHECKS.due("type(-1, 48)", x.type(-1, 48), -2);
        CHECKS.due("type(2, 48)", x.type(2, 48), -2);
        CHECKS.due("type(0, -1)", x.type(0, -1), -2);
        CHECKS.due("type(0, 256)", x.type(0, 256), -2);
        CHECKS.due("nothing was typed", x.count(2), 0);
        CHECKS.due("type(0, 0)", x.type(0, 0), 1);
        CHECKS.due("type(0, 255)", x.type(0, 255), 2);
        CHECKS.due("type(1, 255)", x.type(1, 255), 1);
        for (int i = 3; i <= 99; i++) {
            CHECKS.due("type on", x.type(0, 48), i);
        }
        CHECKS.due("type(0, ..) of 99", x.type(0, 48), -4);
        CHECKS.due("type(0, 256) of 99", x.type(0, 256), -2);
        CHECKS.due("type(2, 48)", x.type(2, 48), -2);
        CHECKS.due("count(2)", x.count(2), 99);
        CHECKS.due("count(3)", x.count(3), 1);
        CHECKS.due("the other text takes more", x.type(1, 48), 2);
        for (int i = 3; i <= 99; i++) {
            x.type(1, 48);
        }
        CHECKS.due("type(1, ..) of 99", x.type(1, 48), -4);
    }

    private static void wiping() {
        OthersHours x = Checks.with("0031;1042", "0000");
        CHECKS.due("wipe(-1)", x.wipe(-1), -2);
        CHECKS.due("wipe(2)", x.wipe(2), -2);
        CHECKS.due("wipe(1)", x.wipe(1), 4);
        CHECKS.due("fault(1)", x.fault(1), -1);
        CHECKS.due("owns(0, 3)", x.owns(0, 3), 1);
        CHECKS.due("wipe(0)", x.wipe(0), 9);
        CHECKS.due("wipe(0) again", x.wipe(0), 0);
        CHECKS.due("owns(0, 3) wiped", x.owns(0, 3), 0);
        CHECKS.due("acts(1, 4) wiped", x.acts(1, 4), 1);
        Checks.type(x, 0, "x");
        CHECKS.due("fault(0)", x.fault(0), 0);
        CHECKS.due("wipe(0) of a faulty one", x.wipe(0), 1);
        Checks.type(x, 0, "0031");
        CHECKS.due("fault(0) behind it", x.fault(0), -1);
    }

    private static void undoing() {
        OthersHours x = Checks.with("0031;1042;2050", "00001;11011");
        CHECKS.due("undo(-1)", x.undo(-1), -2);
        CHECKS.due("undo(2)", x.undo(2), -2);
        CHECKS.due("undo(0)", x.undo(0), 2);
        CHECKS.due("count(2)", x.count(2), 9);
        CHECKS.due("count(0)", x.count(0), 2);
        CHECKS.due("fault(0)", x.fault(0), -1);
        CHECKS.due("owns(2, 5)", x.owns(2, 5), 2);
        CHECKS.due("owns(1, 4)", x.owns(1, 4), 2);
        CHECKS.due("count(1) of the other text", x.count(1), 2);
        CHECKS.due("undo(0) 2", x.undo(0), 1);
        CHECKS.due("undo(0) 3", x.undo(0), 0);
        CHECKS.due("count(2) 3", x.count(2), 0);
        CHECKS.due("undo(0) 4", x.undo(0), -3);
        CHECKS.due("undo(1)", x.undo(1), 1);
        CHECKS.due("count(3)", x.count(3), 5);
        CHECKS.due("body(1, 1, 0)", x.body(1, 1, 0), 0);
        CHECKS.due("body(0, 0, 0)", x.body(0, 0, 0), 1);
        CHECKS.due("undo(1) 2", x.undo(1), 0);
        CHECKS.due("undo(1) 3", x.undo(1), -3);
        CHECKS.due("count(3) 3", x.count(3), 0);
        Checks.type(x, 0, "0031;");
        CHECKS.due("undo(0) of a faulty one", x.undo(0), -3);
        CHECKS.due("it stays", x.count(2), 5);
        Checks.type(x, 0, "0042");
        CHECKS.due("undo(0) of one gone on", x.undo(0), 1);
        Checks.type(x, 0, ";0042");
        CHECKS.due("what is undone can be told again", x.count(0), 2);
    }

    private static void faultOf(int text, String bytes, int want) {
        OthersHours x = new OthersHours();
        Checks.type(x, text, bytes);
        CHECKS.due("fault(" + text + ") of " + bytes, x.fault(text), want);
    }

    private static void grantFaults() {
        CHECKS.due("fault(-1)", new OthersHours().fault(-1), -2);
        CHECKS.due("fault(2)", new OthersHours().fault(2), -2);
        String[] well = {"", "0031", "5235", "0000;0010", "0031;1031", "0091", "0191", "0201", TWENTY};
        for (String bytes : well) {
            faultOf(0, bytes, -1);
        }
        String[] open = {"0", "00", "003", "0031;", "0031;1", "0031;10", "0031;104", "02"};
        for (String bytes : open) {
            faultOf(0, bytes, bytes.length());
        }
        faultOf(0, "6031", 0);
        faultOf(0, "/031", 0);
        faultOf(0, ";", 0);
        faultOf(0, "0301", 1);
        faultOf(0, "0x01", 1);
        faultOf(0, "0241", 2);
        faultOf(0, "0291", 2);
        faultOf(0, "00:1", 2);
        faultOf(0, "0036", 3);
        faultOf(0, "003/", 3);
        faultOf(0, "00310", 4);
        faultOf(0, "0031:", 4);
        faultOf(0, "0031;;", 5);
        faultOf(0, "0031;6", 5);
        faultOf(0, "0031;0032", 8);
        faultOf(0, "0031;0031", 8);
        faultOf(0, "0031;0131;0032;9", 13);
        faultOf(0, "0031;003", 8);
        faultOf(0, "0031;0032;", 8);
        faultOf(0, TWENTY.substring(0, 95) + "0180", 98);
        faultOf(0, "\u00b0\u00b0", 0);
        faultOf(0, "0" + (char) 0, 1);
    }

    private static void orderFaults() {
        String[] well = {"", "00000", "55234", "00031;00031", "00001;10001;20001"};
        for (String bytes : well) {
            faultOf(1, bytes, -1);
        }
        String[] open = {"0", "00", "000", "0000", "00000;", "00000;0000"};
        for (String bytes : open) {
            faultOf(1, bytes, bytes.length());
        }
        faultOf(1, "60000", 0);
        faultOf(1, "06000", 1);
        faultOf(1, "00300", 2);
        faultOf(1, "00240", 3);
        faultOf(1, "00005", 4);
        faultOf(1, "000000", 5);
        faultOf(1, "00000;;", 6);
        StringBuilder sixteen = new StringBuilder("00000");
        for (int i = 1; i < 16; i++) {
            sixteen.append(";00000");
        }
        faultOf(1, sixteen.toString(), -1);
        faultOf(1, sixteen + ";000", 99);
        CHECKS.due("count(1) of sixteen", Checks.with("", sixteen.toString()).count(1), 16);
    }

    private static void faultyIsEmpty() {
        OthersHours x = Checks.with("0031;1042;", "00001;");
        CHECKS.due("faulty: count(0)", x.count(0), 0);
        CHECKS.due("faulty: count(1)", x.count(1), 0);
        CHECKS.due("faulty: count(2)", x.count(2), 10);
        CHECKS.due("faulty: owns(0, 3)", x.owns(0, 3), 0);
        CHECKS.due("faulty: done(0)", x.done(0), -2);
        CHECKS.due("faulty: body(0, 0, 0)", x.body(0, 0, 0), 0);
        CHECKS.due("faulty: word()", x.word(), -1);
        Checks.type(x, 0, "2050");
        CHECKS.due("well again: owns(0, 3)", x.owns(0, 3), 1);
        CHECKS.due("well again: count(0)", x.count(0), 3);
        CHECKS.due("twenty", Checks.with(TWENTY, "").count(0), 20);
        CHECKS.due("twenty are full", Checks.with(TWENTY, "").type(0, ';'), -4);
    }
}
