/** Promises 2, 3, 6, 7 and 8: the tape, its reading and its faults. */
public final class TapeTest {
    private static final Check CHECK = new Check();

    public static void main(String[] args) {
        feed();
        wipe();
        read();
        formsAndVariables();
        fault();
        ranges();
        place();
        limits();
        CHECK.exit();
    }

    private static void feed() {
        CHECK.begin("promise 2: feed");
        LabelHouse house = new LabelHouse();
        CHECK.badArgument("feed(0, 1)", () -> house.feed(0, 1));
        CHECK.badArgument("feed(9, 1)", () -> house.feed(9, 1));
        CHECK.badArgument("feed(-1, 1)", () -> house.feed(-1, 1));
        // the lowest bytes come first, and those above n are left out
        CHECK.due("feed(3, ..)", house.feed(3, 0x7878_7878_7820_4C5EL), 3);
        CHECK.due("feed(4, ..)", house.feed(4, 0x2C35), 7);
        CHECK.due("read()", house.read(), -1);
        CHECK.due("fault()", house.fault(), 5);
        CHECK.due("wipe()", house.wipe(), 7);
        for (int i = 1; i <= 511; i++) {
            CHECK.due("feed(8, 0)", house.feed(8, 0), 8 * i);
        }
        LabelHouse full = new LabelHouse();
        for (int i = 1; i <= 511; i++) {
            full.feed(8, 0);
        }
        CHECK.due("feed(7, 0)", full.feed(7, 0), 4095);
        CHECK.due("feed(2, 0)", full.feed(2, 0), -1);
        CHECK.badArgument("feed(9, 0)", () -> full.feed(9, 0));
        CHECK.due("feed(1, '^')", full.feed(1, '^'), 4096);
        CHECK.due("feed(1, 0)", full.feed(1, 0), -1);
        CHECK.due("read()", full.read(), -1);
        CHECK.due("place()", full.place(), 4095);
        CHECK.end();
    }

    private static void wipe() {
        CHECK.begin("promise 3: wipe");
        LabelHouse house = new LabelHouse();
        Houses.feed(house, "^L7,7^E");
        CHECK.due("wipe()", house.wipe(), 7);
        CHECK.due("wipe()", house.wipe(), 0);
        CHECK.due("read()", house.read(), 0);
        Houses.feed(house, "^Q");
        house.read();
        CHECK.due("wipe() of a tape with a fault", house.wipe(), 2);
        CHECK.due("fault() stays", house.fault(), 3);
        CHECK.due("place() stays", house.place(), 0);
        CHECK.end();
    }

    private static void read() {
        CHECK.begin("promise 6: read");
        LabelHouse house = new LabelHouse();
        CHECK.due("read() of nothing", house.read(), 0);
        CHECK.due("labels", Houses.read(house, " \n\0^L9,8 ^C3\t^E  ^L7,6^E "), 4);
        CHECK.due("the tape is empty", house.wipe(), 0);
        CHECK.due("label(3, 0)", house.label(3, 0), 7);
        CHECK.due("label(2, 1)", house.label(2, 1), 8);
        CHECK.due("none comes", house.read(), 0);
        CHECK.due("label(0, 0)", house.label(0, 0), -1);
        Houses.read(house, "^L9,9^F^;^E");
        CHECK.due("with a fault", Houses.read(house, "^L9,9^F^;^E^L9,9"), -1);
        CHECK.due("label(0, 0) behind a fault", house.label(0, 0), -1);
        CHECK.outOfBounds("order(0, 0) behind a fault", () -> house.order(0, 0));
        CHECK.due("the tape stays", house.wipe(), 16);
        // a field without its end is dropped, and the next label knows nothing of the one before
        CHECK.due("labels", Houses.read(house, "^L9,9^H5,5^D1,2,3,1^C2^O3,3^R^Xab^#2^T^E^L9,9^T^Xz^;^E"), 3);
        CHECK.due("label(0, 3)", house.label(0, 3), 0);
        CHECK.due("label(2, 3)", house.label(2, 3), 1);
        int[] row = {0, 0, 0, 0, 0, 0, 1, 1, 1};
        for (int what = 0; what < 9; what++) {
            CHECK.due("order(0, " + what + ")", house.order(0, what), row[what]);
        }
        CHECK.end();
    }

    private static void formsAndVariables() {
        CHECK.begin("promise 6: forms and variables");
        LabelHouse house = new LabelHouse();
        Houses.read(house, "^S3^T^Xin form^;^Z^K,nought^K4,four^Q");
        CHECK.due("fault()", house.fault(), 3);
        CHECK.due("they stay", Houses.read(house, "^L9,9^U3^T^V^;^T^V4^;^E"), 1);
        CHECK.due("data 0", Houses.data(house, 0), "in form");
        CHECK.due("data 1", Houses.data(house, 1), "nought");
        CHECK.due("data 2", Houses.data(house, 2), "four");
        // data and numbers of a form end with it; a variable counts as it is where V stands
        Houses.read(house, "^S^Xa^Z^S1^K2,b^T^V2^;^Z^S2^O7^Z^L9,9^U ^T^;^U1^K2,c^U2^F^;^T^V2^;^E");
        CHECK.due("fault()", house.fault(), 0);
        CHECK.due("data 0", Houses.data(house, 0), "a");
        CHECK.due("data 1", Houses.data(house, 1), "b");
        CHECK.due("order(2, 1)", house.order(2, 1), 7);
        CHECK.due("data 3", Houses.data(house, 3), "c");
        // behind U a command must begin again, and an empty variable is one, too
        Houses.read(house, "^L9,9^U2,5^F^;^E");
        CHECK.due("fault() behind U", house.fault(), 4);
        Houses.read(house, "^K2,^L9,9^T^V2^;^E");
        CHECK.due("fault() of an emptied variable", house.fault(), 8);
        Houses.read(house, "^S5a^Zb");
        CHECK.due("fault()", house.fault(), 1);
        CHECK.due("place()", house.place(), 6);
        // the last ^ of a form has nothing behind it
        Houses.read(house, "^S5^^Z^L9,9^U5");
        CHECK.due("fault()", house.fault(), 2);
        CHECK.due("place()", house.place(), 11);
        CHECK.end();
    }

    /** A text, its fault and its place. */
    private static void due(String text, int fault, int place) {
        LabelHouse house = new LabelHouse();
        int labels = Houses.read(house, text);
        String shown = text.length() > 60 ? text.substring(0, 60) + ".." : text;
        CHECK.due("fault() of " + shown, house.fault(), fault);
        CHECK.due("place() of " + shown, house.place(), place);
        CHECK.isTrue("NONE just with a fault: " + shown, (labels == -1) == (fault != 0));
    }

    private static void fault() {
        CHECK.begin("promise 7: fault");
        due("x", 1, 0);
        due("^L9,9 x^E", 1, 6);
        due("^L9,9^R5^E", 1, 7);
        due("^", 2, 0);
        due("^Z", 2, 0);
        due("^l9,9", 2, 0);
        due("^ L9,9", 2, 0);
        due("^E", 3, 0);
        due("^O1,2,3", 3, 0);
        due("^L9,9^L0", 3, 5);
        due("^L9,9^S1^Z", 3, 5);
        due("^L9,9^;", 3, 5);
        due("^;", 3, 0);
        due("^L9,9^T^Xa^;^;", 3, 12);
        due("^S1^E^Z^L9,9^U1", 3, 12);
        due("^S1^L9,9^Z^L9,9^U1", 3, 15);
        due("^L9,9,", 4, 0);
        due("^L-,9", 4, 0);
        due("^L9,-", 4, 0);
        due("^L000009,9", 4, 0);
        due("^L0,9,9", 4, 0);
        due("^L00009,00009^E", 0, -1);
        due("^K", 4, 0);
        due("^K1", 4, 0);
        due("^K1;a", 4, 0);
        due("^K-,a", 4, 0);
        due("^S1,a^Z", 4, 0);
        due("^S-a^Z", 4, 0);
        due("^L", 5, 0);
        due("^L9", 5, 0);
        due("^L9,9^W", 5, 5);
        due("^K10,_", 5, 0);
        due("^S8a", 5, 0);
        due("^S15a^Z", 5, 0);
        due("^K1,a_", 6, 0);
        due("^K1,a_1", 6, 0);
        due("^K1,_1g", 6, 0);
        due("^K1,_^", 6, 0);
        due("^K1,_fF_0a_A0", 0, -1);
        due("^K1," + "a".repeat(200), 0, -1);
        due("^K1," + "a".repeat(201), 6, 0);
        due("^L9,9^X" + "_61".repeat(200) + "^T^;^E", 0, -1);
        due("^L9,9^X" + "_61".repeat(201), 6, 5);
        due("^S1abc", 7, 0);
        due("^S1abc^", 7, 0);
        due("^S1" + "a".repeat(400) + "^Z", 0, -1);
        due("^S1" + "a".repeat(401) + "^Z", 7, 0);
        faultsOfFields();
        due("^L9,9^U", 9, 5);
        due("^S1^Z^L9,9^U1", 9, 10);
        due("^L9,9", 11, 5);
        due("^L9,9  \n", 11, 8);
        due("^L9,9^T^Xabc", 11, 12);
        CHECK.end();
    }

    private static void field(String text, boolean canBe) {
        due("^L9,9" + text + "^;^E", canBe ? 0 : 8, canBe ? -1 : 5 + text.length());
    }

    private static void faultsOfFields() {
        for (String kind : new String[] {"^T", "^W9", "^B", "^N", "^Q", "^P"}) {
            field(kind, false);
            field(kind + "^X", false);
        }
        for (String kind : new String[] {"^F", "^I", "^G"}) {
            field(kind, true);
            field(kind + "^#", false);
            field(kind + "^#^X5a", false);
            field(kind + "^#^Xa5", true);
        }
        field("^N^X12345678901", false);
        field("^N^X1234567890123", false);
        field("^N^X12345678901a", false);
        field("^N^X123456789012", true);
        field("^P^X0", false);
        field("^P^X0g", false);
        field("^P^X0aF9", true);
        field("^P9^X0aF9", true);
        field("^P9^X0aF900", false);
        field("^T^Xa^#5", false);
        field("^T^X5^#0", true);
        field("^W1^X" + "a".repeat(20), true);
        field("^W1^X" + "a".repeat(21), false);
        field("^W99^X" + "\n".repeat(19), true);
        field("^W99^X" + "\n".repeat(20), false);
        field("^O4096,-4096^F", true);
        field("^H1^O4096^F", false);
        field("^H-1^O-4096^F", false);
        field("^H,1^O,4096^F", false);
        field("^O4000,4000^G96,96", true);
        field("^O4000,4000^G97,96", false);
        field("^O4000,4000^G96,97", false);
        field("^O-4000,-4000^G-97", false);
        field("^O0,4000^B,93,0,1^Xa", true);
        field("^O0,4000^B,94,0,1^Xa", false);
        field("^O-4000,4000^B,93,1,1^Xa", true);
        field("^O-4000,4000^B,94,1,1^Xa", false);
        field("^O4000,0^B,94,3,1^Xa", false);
        field("^O0,4000^W1,96^Xab", true);
        field("^O0,4000^W1,97^Xab", false);
        field("^O4000^W9,0,1,12^Xa", true);
        field("^O4001^W9,0,1,12^Xa", false);
    }

    /** Each number of each letter at and beyond its ends. */
    private static void ranges() {
        CHECK.begin("promise 7: ranges");
        range("^L*,1^E", 1, 512, 5);
        range("^L1,*^E", 1, 512, 5);
        range("^S*a^Z", 0, 7, 5);
        range("^K*,a", 0, 9, 5);
        label("^H*,0", -4096, 4096);
        label("^H0,*", -4096, 4096);
        label("^O*,0", -4096, 4096);
        label("^O0,*", -4096, 4096);
        label("^C*", 1, 12);
        for (String letter : new String[] {"^D", "^T"}) {
            label(letter + "*,1,1,0", 0, 3);
            label(letter + "0,*,1,0", 1, 10);
            label(letter + "0,1,*,0", 1, 10);
            label(letter + "0,1,1,*", 0, 3);
        }
        label("^V*", 0, 9);
        label("^#*", -99, 99);
        label("^W*", 1, 99);
        label("^W1,*", 0, 999);
        label("^W1,0,*", 0, 2);
        label("^W1,0,0,*", 0, 999);
        label("^B*", 1, 50);
        label("^B,*", 1, 2048);
        label("^B,,*", 0, 3);
        label("^B,,,*", 0, 1);
        label("^N*", 1, 50);
        label("^N,*", 1, 2048);
        label("^N,,*", 0, 3);
        label("^Q*", 1, 50);
        label("^Q,*", 0, 3);
        label("^Q,,*", -1, 7);
        label("^Q,,,*", 0, 3);
        label("^F*", 1, 2048);
        label("^F,*", 1, 2048);
        label("^F,,*", 1, 200);
        label("^I*", 1, 2048);
        label("^I,*", 1, 2048);
        label("^I,,*", 1, 200);
        label("^G*", -4096, 4096);
        label("^G,*", -4096, 4096);
        label("^G,,*", 1, 200);
        label("^P*", 1, 1024);
        LabelHouse house = new LabelHouse();
        for (int k = -1; k <= 8; k++) {
            Houses.read(house, "^L9,9^U" + k + "^E");
            CHECK.due("fault() of U " + k, house.fault(), k < 0 || k > 7 ? 5 : 9);
        }
        CHECK.end();
    }

    private static void label(String command, int least, int most) {
        range("^L9,9" + command + "^E", least, most, 5);
    }

    private static void range(String text, int least, int most, int fault) {
        LabelHouse house = new LabelHouse();
        int[] values = {least - 1, least, most, most + 1, -99999, 99999};
        for (int value : values) {
            Houses.read(house, text.replace("*", Integer.toString(value)));
            int due = value < least || value > most ? fault : 0;
            CHECK.due("fault() of " + text + " with " + value, house.fault(), due);
        }
    }

    private static void place() {
        CHECK.begin("promise 8: place");
        LabelHouse house = new LabelHouse();
        CHECK.due("place()", house.place(), -1);
        Houses.read(house, "^L9,9  ^Tx");
        CHECK.due("place() of a byte", house.place(), 9);
        Houses.read(house, "  ^L9,9  ^T9");
        CHECK.due("place() of a ^", house.place(), 9);
        Houses.read(house, "^S1 ^R ^T9^Z^S2^U1^Z^L9,9 ^U2 ^E");
        CHECK.due("fault() within a form", house.fault(), 5);
        CHECK.due("place() of the outermost U", house.place(), 26);
        Houses.read(house, "^S1 ^R ^T9^Z^S2^U1^Z^S3x^Z^L9,9 ^U3 ^E");
        CHECK.due("fault() of a byte within a form", house.fault(), 1);
        CHECK.due("place() of its U", house.place(), 32);
        Houses.read(house, "^S1^F^;^Z^L9,9^U1^Y");
        CHECK.due("place() behind U", house.place(), 17);
        Houses.read(house, "^L9,9");
        CHECK.due("place() of the end", house.place(), 5);
        Houses.read(house, "^L9,9^E");
        CHECK.due("place() without a fault", house.place(), -1);
        CHECK.due("fault() without a fault", house.fault(), 0);
        CHECK.end();
    }

    private static void limits() {
        CHECK.begin("promise 7: limits of forms, orders, labels and commands");
        StringBuilder forms = new StringBuilder();
        for (int k = 0; k < 4; k++) {
            forms.append("^S").append(k).append("^U").append(k + 1).append("^Z");
        }
        // form 1 uses 2, 3 and 4: four deep; form 0 would be a fifth
        due(forms + "^S4^F^;^Z^L9,9^U1^E", 0, -1);
        due(forms + "^S4^F^;^Z^L9,9^U0^E", 9, 46);
        due("^S^U^Z^L9,9^U", 9, 11);
        String frame = "^F^;";
        due("^L9,9" + frame.repeat(120) + "^E", 0, -1);
        due("^L9,9" + frame.repeat(121) + "^E", 10, 5 + 4 * 120 + 2);
        due("^L9,9" + frame.repeat(119) + "^B,,,1^Xa^;", 10, 5 + 4 * 119 + 9);
        due("^L9,9" + frame.repeat(110) + "^W1^X12345678901^;", 10, 5 + 4 * 110 + 16);
        due("^L9,9" + frame.repeat(60) + "^C2^E", 0, -1);
        due("^L9,9" + frame.repeat(61) + "^C2^E", 10, 5 + 4 * 61 + 3);
        due("^L9,9^F^;^E^L9,9" + frame.repeat(120) + "^E", 10, 11 + 5 + 4 * 120);
        due("^L9,9^E".repeat(12), 0, -1);
        due("^L9,9^E".repeat(13), 10, 7 * 12 + 5);
        due("^L9,9^E^L9,9^C12^E", 10, 16);
        due("^L9,9^C12^C1^E".repeat(2), 0, -1);
        commands();
        CHECK.end();
    }

    private static void commands() {
        // the form has 198 commands, so that nine of it and U are 1791; L, E and R do the rest
        String form = "^S1" + "^R".repeat(198) + "^Z";
        String begin = "^L9,9" + "^U1".repeat(9);
        int ends = form.length() + begin.length();
        due(form + begin + "^R".repeat(204) + "^E", 0, -1);
        due(form + begin + "^R".repeat(205) + "^E", 0, -1);
        due(form + begin + "^R".repeat(206) + "^E", 10, ends + 412);
        due(form + begin + "^R".repeat(206) + "^T9", 5, ends + 412);
        due(form + begin + "^R".repeat(206) + "^U2", 9, ends + 412);
        due(form + begin + "^R".repeat(200) + "^U1", 10, ends + 400);
        LabelHouse house = new LabelHouse();
        Houses.read(house, form + begin + "^R".repeat(206) + "^K1,new");
        CHECK.due("fault()", house.fault(), 10);
        Houses.read(house, "^L9,9^T^V1^;^E");
        CHECK.due("the two thousandth command does nothing", house.fault(), 8);
    }
}
