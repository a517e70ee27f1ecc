/** Promises 9, 10 and 11: labels, orders and their data. */
public final class OrderTest {
    private static final Check CHECK = new Check();

    public static void main(String[] args) {
        label();
        order();
        kinds();
        laterOnes();
        blocks();
        copies();
        data();
        CHECK.exit();
    }

    private static void label() {
        CHECK.begin("promise 9: label");
        LabelHouse house = new LabelHouse();
        Houses.read(house, "^L10,20^E^L30,512^F^;^C2^F^;^E^L1,1^F^;^E");
        int[][] rows = {{10, 20, 0, 0}, {30, 512, 0, 2}, {30, 512, 2, 2}, {1, 1, 4, 1}};
        for (int k = 0; k < 4; k++) {
            for (int what = 0; what < 4; what++) {
                CHECK.due("label(" + k + ", " + what + ")", house.label(k, what), rows[k][what]);
            }
        }
        CHECK.due("label(4, 0)", house.label(4, 0), -1);
        CHECK.due("label(-1, 3)", house.label(-1, 3), -1);
        CHECK.badArgument("label(0, 4)", () -> house.label(0, 4));
        CHECK.badArgument("label(0, -1)", () -> house.label(0, -1));
        CHECK.badArgument("label(9, 4)", () -> house.label(9, 4));
        CHECK.end();
    }

    private static void due(LabelHouse house, int k, int... row) {
        for (int what = 0; what < 9; what++) {
            CHECK.due("order(" + k + ", " + what + ")", house.order(k, what), row[what]);
        }
    }

    private static LabelHouse ofLabel(String fields) {
        LabelHouse house = new LabelHouse();
        Houses.read(house, "^L99,99" + fields + "^E");
        CHECK.due("fault() of " + fields, house.fault(), 0);
        return house;
    }

    private static void order() {
        CHECK.begin("promise 10: order");
        LabelHouse house = ofLabel("^H10,20^O-3,4^R^T1,2,3,1^Xab^;^F^;");
        due(house, 0, 0, 7, 24, 1, 2, 1, 2, 3, 2);
        // home stays, but a field begins anew
        due(house, 1, 4, 10, 20, 0, 0, 1, 1, 1, 0);
        CHECK.badArgument("order(0, 9)", () -> house.order(0, 9));
        CHECK.badArgument("order(0, -1)", () -> house.order(0, -1));
        CHECK.badArgument("order(7, 9)", () -> house.order(7, 9));
        CHECK.outOfBounds("order(2, 0)", () -> house.order(2, 0));
        CHECK.outOfBounds("order(-1, 0)", () -> house.order(-1, 0));
        CHECK.end();
    }

    private static void kinds() {
        CHECK.begin("promise 10: kinds, and what is left out");
        LabelHouse house = ofLabel("^D3,4,5,2^T^Xa^;^T1^Xa^;^T,7^Xa^;^T,,,0^Xa^;^B^Xa^;^B3,4,1,1^Xab^;^N^X123456789012^;"
            + "^N,9,3^X123456789012^;^Q^Xa^;^Q5,,7,3^Xa^;^F^;^F5,6,7^;^I^;^I,6^;^G^;^G-5,6,7^;^P^Xff^;^P3^Xffee^;");
        due(house, 0, 0, 0, 0, 2, 0, 3, 4, 5, 1);
        due(house, 1, 0, 0, 0, 2, 0, 1, 4, 5, 1);
        due(house, 2, 0, 0, 0, 2, 0, 3, 7, 5, 1);
        due(house, 3, 0, 0, 0, 0, 0, 3, 4, 5, 1);
        due(house, 4, 1, 0, 0, 0, 0, 2, 50, 0, 1);
        due(house, 5, 1, 0, 0, 1, 0, 3, 4, 0, 2);
        due(house, 6, 0, -7, 0, 1, 0, 3, 4, 5, 2);
        due(house, 7, 2, 0, 0, 0, 0, 2, 50, 0, 12);
        due(house, 8, 2, 0, 0, 3, 0, 2, 9, 0, 12);
        due(house, 9, 3, 0, 0, 0, 0, 2, 1, -1, 1);
        due(house, 10, 3, 0, 0, 3, 0, 5, 1, 7, 1);
        due(house, 11, 4, 0, 0, 0, 0, 1, 1, 1, 0);
        due(house, 12, 4, 0, 0, 0, 0, 5, 6, 7, 0);
        due(house, 13, 5, 0, 0, 0, 0, 1, 1, 1, 0);
        due(house, 14, 5, 0, 0, 0, 0, 1, 6, 1, 0);
        due(house, 15, 6, 0, 0, 0, 0, 0, 0, 1, 0);
        due(house, 16, 6, 0, 0, 0, 0, -5, 6, 7, 0);
        due(house, 17, 7, 0, 0, 0, 0, 8, 0, 0, 1);
        due(house, 18, 7, 0, 0, 0, 0, 3, 0, 0, 2);
        LabelHouse texts = ofLabel("^O5,6^B1,10,0,1^Xa^;^O5,6^B1,10,1,1^Xa^;^O5,6^B1,10,2,1^Xa^;^R^O5,6^B1,10,3,1^D1,2,3,1^Xa^;");
        due(texts, 1, 0, 5, 19, 0, 0, 0, 1, 1, 1);
        due(texts, 3, 0, -8, 6, 1, 0, 0, 1, 1, 1);
        due(texts, 5, 0, 5, -7, 2, 0, 0, 1, 1, 1);
        due(texts, 7, 0, 18, 6, 3, 2, 1, 2, 3, 1);
        CHECK.due("data of the text", Houses.data(texts, 7), "a");
        CHECK.end();
    }

    private static void laterOnes() {
        CHECK.begin("promise 10: later ones count");
        LabelHouse house = ofLabel("^K1,var^O1,2^O3^Xa^V1^Q^T^;^V1^Xb^F9^T2^R^R^;^D1^T^D2^H1,1^Xc^H2,2^;^D^T^Xd^;");
        due(house, 0, 0, 3, 0, 0, 0, 0, 1, 1, 3);
        CHECK.due("data 0", Houses.data(house, 0), "var");
        due(house, 1, 0, 0, 0, 0, 2, 2, 1, 1, 1);
        CHECK.due("data 1", Houses.data(house, 1), "b");
        // a text is as texts are where T stands, its home as it is where the field ends
        due(house, 2, 0, 2, 2, 0, 0, 1, 1, 1, 1);
        due(house, 3, 0, 2, 2, 0, 0, 0, 1, 1, 1);
        LabelHouse counted = new LabelHouse();
        Houses.read(counted, "^L9,9^C2^#5^#-1^T^X10^;^E");
        CHECK.due("the later # counts", Houses.data(counted, 1), "09");
        CHECK.end();
    }

    /** The lines of a block, each behind a bar. */
    private static String lines(LabelHouse house) {
        StringBuilder text = new StringBuilder();
        for (int k = 0; k < house.label(0, 3); k++) {
            text.append('|').append(Houses.data(house, k));
        }
        return text.toString();
    }

    private static String cut(int n, String data) {
        return lines(ofLabel("^W" + n + "^X" + data + "^;"));
    }

    private static void blocks() {
        CHECK.begin("promise 10: blocks");
        CHECK.due("short", cut(5, "abcde"), "|abcde");
        CHECK.due("no blank", cut(5, "abcdefghijkl"), "|abcde|fghij|kl");
        CHECK.due("a blank", cut(5, "ab cdef"), "|ab|cdef");
        CHECK.due("the last blank", cut(5, "a b cdef"), "|a b|cdef");
        CHECK.due("a blank at n", cut(5, "abcde f"), "|abcde|f");
        CHECK.due("a blank at the end", cut(5, "abcde "), "|abcde|");
        CHECK.due("a blank first", cut(3, " abcdef"), "||abc|def");
        CHECK.due("blanks alone", cut(1, "    "), "| | |");
        CHECK.due("byte 10", cut(5, "ab\n\ncdefghi\n"), "|ab||cdefg|hi|");
        CHECK.due("a blank before byte 10", cut(5, "abcde \nf"), "|abcde||f");
        CHECK.due("n 1", cut(1, "a b"), "|a|b");
        LabelHouse left = ofLabel("^O3,4^W6,10,0,5^D1,2,3,0^Xabc defgh^;");
        due(left, 0, 0, 3, 4, 0, 0, 1, 2, 3, 3);
        due(left, 1, 0, 3, 14, 0, 0, 1, 2, 3, 5);
        LabelHouse right = ofLabel("^O3,4^W6,10,1,5^D,,,1^R^Xabc defgh^;");
        due(right, 0, 0, 3, 19, 1, 2, 0, 1, 1, 3);
        due(right, 1, 0, -7, 9, 1, 2, 0, 1, 1, 5);
        LabelHouse middle = ofLabel("^O3,4^W6,10,2,5^D,,,2^Xabc defgh^;");
        due(middle, 0, 0, -2, 4, 2, 0, 0, 1, 1, 3);
        due(middle, 1, 0, 3, -6, 2, 0, 0, 1, 1, 5);
        LabelHouse up = ofLabel("^O3,4^W6,10,1,5^D,,,3^Xabc defgh^;");
        due(up, 0, 0, 3, -11, 3, 0, 0, 1, 1, 3);
        due(up, 1, 0, 13, -1, 3, 0, 0, 1, 1, 5);
        CHECK.end();
    }

    private static void copies() {
        CHECK.begin("promise 10: copies");
        CHECK.due("up", Houses.counted("^T", "A0098", 1, 4), "|A0098|A0099|A0100|A0101");
        CHECK.due("carried beyond", Houses.counted("^T", "A98", 1, 3), "|A98|A99|A00");
        CHECK.due("down", Houses.counted("^T", "A01", -1, 4), "|A01|A00|A99|A98");
        CHECK.due("far down", Houses.counted("^T", "5", -99, 3), "|5|6|7");
        CHECK.due("by 0", Houses.counted("^T", "A7", 0, 2), "|A7|A7");
        CHECK.due("nine digits", Houses.counted("^T", "1999999999", 1, 2), "|1999999999|1000000000");
        CHECK.due("with text", Houses.counted("^B,,,1", "a9", 1, 2), "|a9/a9|a0/a0");
        CHECK.due("in lines", Houses.counted("^W2", "x 0199", 1, 2), "|x/01/99|x/02/00");
        CHECK.due("figures", Houses.counted("^N", "999999999999", 1, 2), "|999999999999|999000000000");
        CHECK.due("a picture", Houses.counted("^P", "4A49", 1, 2), "|JI|JP");
        CHECK.due("digits of a picture", Houses.counted("^P", "4F4a39", 2, 2), "|OJ9|OJA");
        LabelHouse house = new LabelHouse();
        Houses.read(house, "^L9,9^T^X1^;^C3^T^X2^#9^;^E");
        CHECK.due("label(2, 2)", house.label(2, 2), 4);
        CHECK.due("one that does not count", Houses.data(house, 4), "1");
        CHECK.due("one that does", Houses.data(house, 5), "0");
        CHECK.end();
    }

    private static void data() {
        CHECK.begin("promise 11: data");
        LabelHouse house = ofLabel("^T^X_00abcdefgh_FF^;^F^;");
        CHECK.due("data(0, 0)", house.data(0, 0), 0x6766_6564_6362_6100L);
        CHECK.due("data(0, 2)", house.data(0, 2), 0xFF68_6766_6564_6362L);
        CHECK.due("data(0, 9)", house.data(0, 9), 255);
        CHECK.due("data(0, 10)", house.data(0, 10), 0);
        CHECK.due("data(0, -7)", house.data(0, -7), 0);
        CHECK.due("data(0, -6)", house.data(0, -6), 0x6100_0000_0000_0000L);
        CHECK.due("data(0, -8)", house.data(0, -8), 0);
        CHECK.due("data(0, least)", house.data(0, Integer.MIN_VALUE), 0);
        CHECK.due("data(0, most)", house.data(0, Integer.MAX_VALUE), 0);
        CHECK.due("data(1, 0)", house.data(1, 0), 0);
        CHECK.outOfBounds("data(2, 0)", () -> house.data(2, 0));
        CHECK.outOfBounds("data(-1, 0)", () -> house.data(-1, 0));
        CHECK.end();
    }
}
