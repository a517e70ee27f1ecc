/** Labels, fields, orders, lines and copies, sentence by sentence. */
public final class EdgeFieldTest {
    private static final Check CHECK = new Check();

    public static void main(String[] args) {
        labels();
        fields();
        kinds();
        steps();
        blocks();
        lines();
        pictures();
        copies();
        CHECK.exit();
    }

    private static void due(String fields, String want) {
        CHECK.due(fields, Houses.ofLabel(fields), want);
    }

    private static void labels() {
        CHECK.test("terms: E ends a label; one without orders is a label", () -> {
            LabelHouse house = new LabelHouse();
            CHECK.due("read()", Houses.read(house, "^L3,4^E^L5,6^F^;^E"), 2);
            CHECK.due("label(0, 3)", house.label(0, 3), 0);
            CHECK.due("label(1, 2)", house.label(1, 2), 0);
            CHECK.due("label(1, 3)", house.label(1, 3), 1);
        });
        CHECK.test("terms: a field that has begun and has no ; yet is dropped with E", () -> {
            due("^F^;^O3,3^R^X1^#1^F9", "4 0 0 0 0 1 1 1 ");
            CHECK.due("and not in the next label", Houses.orders("^L9,9^O3,3^R^X1^#1^F9^E^L9,9^F^;^E"), "4 0 0 0 0 1 1 1 ");
        });
        CHECK.test("terms: at the beginning of a label home is (0, 0)", () ->
            CHECK.due("orders", Houses.orders("^L9,9^H5,6^F^;^E^L9,9^F^;^E"), "4 5 6 0 0 1 1 1 |4 0 0 0 0 1 1 1 "));
        CHECK.test("terms: at the beginning of a label the copies are 1", () ->
            CHECK.due("labels", Houses.result("^L9,9^C5^E^L9,9^E"), "6"));
        CHECK.test("terms: at the beginning of a label texts are 0, 1, 1, 0", () ->
            CHECK.due("orders", Houses.orders("^L9,9^D1,2,3,1^Xa^T^;^E^L9,9^Xa^T^;^Xb^W1^;^E"),
                "0 0 0 1 0 1 2 3 a|0 0 0 0 0 0 1 1 a|0 0 0 0 0 0 1 1 b"));
        CHECK.test("terms: at its beginning a field has no origin, kind or data, is not turned over and does not count on", () -> {
            due("^O5,6^R^X1^#1^T^;^F^;", "0 5 6 0 2 0 1 1 1|4 0 0 0 0 1 1 1 ");
            CHECK.due("kind", Houses.ofLabel("^F^;^O1^;"), Houses.fault(3, 12));
            CHECK.due("data", Houses.ofLabel("^Xa^T^;^T^;"), Houses.fault(8, 14));
            CHECK.due("# in the next field", Houses.orders("^L9,9^C2^X1^#1^T^;^X1^T^;^E"),
                "0 0 0 0 0 0 1 1 1|0 0 0 0 0 0 1 1 1|0 0 0 0 0 0 1 1 2|0 0 0 0 0 0 1 1 1");
        });
        CHECK.test("terms: home, texts and copies stay from one field to the next", () ->
            CHECK.due("orders", Houses.orders("^L9,9^C2^H5,6^D1^F^;^Xa^T^;^E"),
                "4 5 6 0 0 1 1 1 |0 5 6 0 0 1 1 1 a|4 5 6 0 0 1 1 1 |0 5 6 0 0 1 1 1 a"));
    }

    private static void fields() {
        CHECK.test("terms: home counts as it is where the field ends, later H in place of earlier ones", () ->
            due("^H1,2^O10,20^F^H3,4^;", "4 13 24 0 0 1 1 1 "));
        CHECK.test("terms: D counts from there on, for T where it stands, for blocks and texts of bars where the field ends", () ->
            due("^Xa^T^D1,2,3,1^;^Xb^W1^D2,3,4,2^;^Xc^B,,,1^D3,4,5,3^;",
                "0 0 0 0 0 0 1 1 a|0 0 0 2 0 2 3 4 b|1 0 0 0 0 2 50 0 c|0 0 53 0 0 3 4 5 c"));
        CHECK.test("terms: R once more is still turned over", () ->
            due("^R^R^F^;^R^F^R^R^;", "4 0 0 0 2 1 1 1 |4 0 0 0 2 1 1 1 "));
        CHECK.test("terms: R, O, # and a kind leave the data of X and V as it is", () ->
            due("^K1,a1^K2,b2^V1^R^O1,1^#0^T^;^Xc3^K2,d4^R^O1,1^#0^T^;", "0 1 1 0 2 0 1 1 a1|0 1 1 0 2 0 1 1 c3"));
        CHECK.test("terms: a later O counts in place of an earlier one, also a left out one", () ->
            due("^O1,2^O3,4^F^O5,6^;^O1,2^O^F^;", "4 5 6 0 0 1 1 1 |4 0 0 0 0 1 1 1 "));
        CHECK.test("terms: a later X or V counts in place of an earlier one, one for the other", () ->
            due("^K1,v^Xa^Xbc^T^;^Xa^V1^T^;^V1^Xa^T^;^V1^V1^T^;^Xabc^Xd^T^;",
                "0 0 0 0 0 0 1 1 bc|0 0 0 0 0 0 1 1 v|0 0 0 0 0 0 1 1 a|0 0 0 0 0 0 1 1 v|0 0 0 0 0 0 1 1 d"));
        CHECK.test("terms: a later # counts in place of an earlier one", () ->
            CHECK.due("orders", Houses.orders("^L9,9^C2^X5^T^#3^#-1^;^E"), "0 0 0 0 0 0 1 1 5|0 0 0 0 0 0 1 1 4"));
        CHECK.test("terms: a later kind, of whichever kind, counts in place of an earlier one, with its numbers", () -> {
            due("^Xa^F5,6,7^T^;^Xa^T3,4,5^F^;^Xa^W9^Q3^;^Q^G1,2,3^;",
                "0 0 0 0 0 0 1 1 a|4 0 0 0 0 1 1 1 |3 0 0 0 0 3 1 -1 a|6 0 0 0 0 1 2 3 ");
            due("^F5,6,7^F^;^F5,6,7^I2^;", "4 0 0 0 0 1 1 1 |5 0 0 0 0 2 1 1 ");
            due("^Xa^B,9,,1^B,8^;", "1 0 0 0 0 2 8 0 a");
        });
    }

    private static void kinds() {
        CHECK.test("terms: orders of kind 0 to 7 with their numbers, 0 for what there is not", () -> {
            due("^Xa^T3,10,9,2^;", "0 0 0 2 0 3 10 9 a");
            due("^Xa^B50,2048,3^;", "1 0 0 3 0 50 2048 0 a");
            due("^X123456789012^N50,2048,3^;", "2 0 0 3 0 50 2048 0 123456789012");
            due("^Xa^Q50,3,7,3^;", "3 0 0 3 0 50 3 7 a");
            due("^F2048,2047,200^;", "4 0 0 0 0 2048 2047 200 ");
            due("^I2048,2047,200^;", "5 0 0 0 0 2048 2047 200 ");
            due("^G-4096,4096,200^;", "6 0 0 0 0 -4096 4096 200 ");
            due("^Xff^P8^;", "7 0 0 0 0 8 0 0 \377");
        });
        CHECK.test("terms: orders of kind 4 to 6 have no data, whatever the field has", () -> {
            due("^Xabc^F^;", "4 0 0 0 0 1 1 1 ");
            due("^Xabc^I^;", "5 0 0 0 0 1 1 1 ");
            due("^Xabc^G^;", "6 0 0 0 0 0 0 1 ");
        });
        CHECK.test("terms: orders of kind 4 to 7 have the quarter 0, whatever texts have", () ->
            due("^D,,,3^F^;^I^;^G^;^Xff^P^;", "4 0 0 0 0 1 1 1 |5 0 0 0 0 1 1 1 |6 0 0 0 0 0 0 1 |7 0 0 0 0 8 0 0 \377"));
        CHECK.test("terms: the way of all orders of a field that is turned over is 2", () -> {
            due("^R^Xa^B,,,1^;", "1 0 0 0 2 2 50 0 a|0 0 53 0 2 0 1 1 a");
            due("^R^Xab^W1^;", "0 0 0 0 2 0 1 1 a|0 0 0 0 2 0 1 1 b");
            due("^R^G^;^R^Xff^P^;", "6 0 0 0 2 0 0 1 |7 0 0 0 2 8 0 0 \377");
        });
        CHECK.test("terms: bars have their text with c = 1 alone", () -> {
            due("^Xa^B,,,0^;", "1 0 0 0 0 2 50 0 a");
            due("^Xa^B,,,1^;", "1 0 0 0 0 2 50 0 a|0 0 53 0 0 0 1 1 a");
        });
    }

    private static void steps() {
        CHECK.test("terms: the steps (0, h + 3) of the text of bars by each quarter, least and greatest h", () -> {
            due("^O100,200^Xa^B,1,0,1^;", "1 100 200 0 0 2 1 0 a|0 100 204 0 0 0 1 1 a");
            due("^O100,200^Xa^B,1,1,1^;", "1 100 200 1 0 2 1 0 a|0 96 200 1 0 0 1 1 a");
            due("^O100,200^Xa^B,1,2,1^;", "1 100 200 2 0 2 1 0 a|0 100 196 2 0 0 1 1 a");
            due("^O100,200^Xa^B,1,3,1^;", "1 100 200 3 0 2 1 0 a|0 104 200 3 0 0 1 1 a");
            due("^O100,2045^Xa^B,2048,0,1^;", "1 100 2045 0 0 2 2048 0 a|0 100 4096 0 0 0 1 1 a");
        });
        CHECK.test("terms: the text of bars has r of the bars, not that of texts", () ->
            due("^D1,2,3,2^Xa^B,1,1,1^;", "1 0 0 1 0 2 1 0 a|0 -4 0 1 0 1 2 3 a"));
    }

    private static void blocks() {
        CHECK.test("terms: line k of a block stands by the steps (s, k l), at each quarter", () -> {
            due("^O100,200^W5,7,1,10^Xabc_0Ad^;", "0 120 200 0 0 0 1 1 abc|0 140 207 0 0 0 1 1 d");
            due("^D,,,1^O100,200^W5,7,1,10^Xabc_0Ad^;", "0 100 220 1 0 0 1 1 abc|0 93 240 1 0 0 1 1 d");
            due("^D,,,2^O100,200^W5,7,1,10^Xabc_0Ad^;", "0 80 200 2 0 0 1 1 abc|0 60 193 2 0 0 1 1 d");
            due("^D,,,3^O100,200^W5,7,1,10^Xabc_0Ad^;", "0 100 180 3 0 0 1 1 abc|0 107 160 3 0 0 1 1 d");
        });
        CHECK.test("terms: at the left s is 0, at the right u (n - d)", () -> {
            due("^W5,0,0,10^Xab^;", "0 0 0 0 0 0 1 1 ab");
            due("^W5,0,1,10^Xab^;", "0 30 0 0 0 0 1 1 ab");
            due("^W5,0,1,10^Xabcde^;", "0 0 0 0 0 0 1 1 abcde");
            due("^W5,0,1,0^Xab^;", "0 0 0 0 0 0 1 1 ab");
        });
        CHECK.test("terms: in the middle s is u times half of n - d, rounded down", () -> {
            due("^W5,0,2,10^Xabcde^;", "0 0 0 0 0 0 1 1 abcde");
            due("^W5,0,2,10^Xabcd^;", "0 0 0 0 0 0 1 1 abcd");
            due("^W5,0,2,10^Xabc^;", "0 10 0 0 0 0 1 1 abc");
            due("^W5,0,2,10^Xab^;", "0 10 0 0 0 0 1 1 ab");
            due("^W5,0,2,10^Xa^;", "0 20 0 0 0 0 1 1 a");
        });
        CHECK.test("terms: an empty line of a block is an order without data", () ->
            due("^W5,7,1,10^Xa_0A_0Ab^;", "0 40 0 0 0 0 1 1 a|0 50 7 0 0 0 1 1 |0 40 14 0 0 0 1 1 b"));
        CHECK.test("terms: twenty lines of a block are twenty orders", () -> {
            LabelHouse house = new LabelHouse();
            Houses.read(house, "^L9,9^W1,200^Xabcdefghijklmnopqrst^;^E");
            CHECK.due("label(0, 3)", house.label(0, 3), 20);
            CHECK.due("order(19, 2)", house.order(19, 2), 3800);
            CHECK.due("data(19, 0)", house.data(19, 0), 't');
        });
    }

    /** The lines of a block of n cells, each behind a bar. */
    private static String cut(int n, String data) {
        LabelHouse house = new LabelHouse();
        Houses.read(house, "^L9,9^W" + n + "^X" + data + "^;^E");
        StringBuilder text = new StringBuilder();
        for (int k = 0; k < house.label(0, 3); k++) {
            text.append('|').append(Houses.data(house, k));
        }
        return text.toString();
    }

    private static void cut(int n, String data, String want) {
        CHECK.due(n + " cells: " + data, cut(n, data), want);
    }

    private static void lines() {
        CHECK.test("terms: a piece that is no longer than n is a line, one that is longer is not", () -> {
            cut(5, "abcde", "|abcde");
            cut(5, "abcdef", "|abcde|f");
            cut(99, "a".repeat(99), "|" + "a".repeat(99));
            cut(99, "a".repeat(100), "|" + "a".repeat(99) + "|a");
            cut(5, "a b c", "|a b c");
            cut(1, "a", "|a");
            cut(1, " ", "| ");
        });
        CHECK.test("terms: data is cut at each byte 10, which is left out; an empty piece is an empty line", () -> {
            cut(5, "ab_0Acd", "|ab|cd");
            cut(5, "_0A", "||");
            cut(5, "_0Aab", "||ab");
            cut(5, "ab_0A", "|ab|");
            cut(5, "ab_0A_0A_0Acd", "|ab|||cd");
            cut(5, "abcde_0Afghij", "|abcde|fghij");
            cut(5, "ab_0Dcd", "|ab\rcd");
            cut(5, "abcdef_0Ag", "|abcde|f|g");
        });
        CHECK.test("terms: a longer piece is cut before the last blank among its first n + 1 bytes", () -> {
            cut(5, "ab cdef", "|ab|cdef");
            cut(5, "a b cdef", "|a b|cdef");
            cut(5, "abcd ef", "|abcd|ef");
            cut(5, "abcde f", "|abcde|f");
            cut(5, "abcdef g", "|abcde|f g");
            cut(5, "ab  cde", "|ab |cde");
        });
        CHECK.test("terms: a blank may be the first of the piece: the line is empty then", () -> {
            cut(3, " abcdef", "||abc|def");
            cut(1, " ab", "||a|b");
            cut(3, "ab_0A cdefg", "|ab||cde|fg");
        });
        CHECK.test("terms: the piece goes on behind the blank, perhaps with nothing, which is an empty line", () -> {
            cut(5, "abcde ", "|abcde|");
            cut(5, "abcde _0Af", "|abcde||f");
            cut(2, "   ", "|  |");
            cut(1, "  ", "| |");
            cut(1, "    ", "| | |");
        });
        CHECK.test("terms: without such a blank the line is the first n bytes, and the piece goes on there", () -> {
            cut(3, "abcdefg", "|abc|def|g");
            cut(3, "abcdef", "|abc|def");
            cut(3, "abcd ef", "|abc|d|ef");
            cut(1, "abc", "|a|b|c");
        });
        CHECK.test("terms: a blank behind the piece's end, past a byte 10, does not count", () -> cut(5, "abcdef_0A g", "|abcde|f| g"));
    }

    private static void pictures() {
        CHECK.test("terms: two hexadecimal digits are a byte of a picture, of both cases, from 00 to ff", () -> {
            due("^X0009aFFaff^P^;", "7 0 0 0 0 8 0 0 \0\t\257\372\377");
            LabelHouse house = new LabelHouse();
            Houses.read(house, "^L9,9^P^X" + "a5".repeat(100) + "^;^E");
            CHECK.due("order(0, 8)", house.order(0, 8), 100);
            CHECK.due("data", Houses.data(house, 0), "\245".repeat(100));
        });
    }

    private static void counted(String data, int step, int copies, String want) {
        CHECK.due(data + " by " + step, Houses.counted("^T", data, step, copies), want);
    }

    private static void copies() {
        CHECK.test("terms: copies 1 and 12, all with the same orders", () -> {
            CHECK.due("one", Houses.counted("^T", "7", 1, 1), "|7");
            CHECK.due("twelve", Houses.counted("^T", "00", 1, 12), "|00|01|02|03|04|05|06|07|08|09|10|11");
            LabelHouse house = new LabelHouse();
            Houses.read(house, "^L9,8^C12^O3,4^F5,6,7^;^E");
            for (int c = 0; c < 12; c++) {
                CHECK.due("label(" + c + ", 0)", house.label(c, 0), 9);
                CHECK.due("label(" + c + ", 1)", house.label(c, 1), 8);
                CHECK.due("label(" + c + ", 2)", house.label(c, 2), c);
                CHECK.due("order(" + c + ", 7)", house.order(c, 7), 7);
            }
        });
        CHECK.test("terms: what is carried beyond the digits is left out, and they stay as many", () -> {
            counted("9", 1, 3, "|9|0|1");
            counted("A98", 1, 4, "|A98|A99|A00|A01");
            counted("A098", 1, 4, "|A098|A099|A100|A101");
            counted("000", 0, 2, "|000|000");
            counted("7", 99, 3, "|7|6|5");
            counted("07", 99, 3, "|07|06|05");
        });
        CHECK.test("terms: below 0, 10 to the number of digits more as often as it takes", () -> {
            counted("0", -1, 3, "|0|9|8");
            counted("00", -1, 2, "|00|99");
            counted("5", -99, 3, "|5|6|7");
            counted("05", -99, 3, "|05|06|07");
            counted("0", -99, 12, "|0|1|2|3|4|5|6|7|8|9|0|1");
            counted("100", -99, 3, "|100|001|902");
        });
        CHECK.test("terms: of more than nine digits the last nine count", () -> {
            counted("999999999", 1, 2, "|999999999|000000000");
            counted("1999999999", 1, 2, "|1999999999|1000000000");
            counted("1000000000", -1, 2, "|1000000000|1999999999");
            counted("12345678999", 1, 2, "|12345678999|12345679000");
            counted("99999999", 1, 2, "|99999999|00000000");
        });
        CHECK.test("terms: just the digits with which the data ends count", () -> {
            counted("12a09", 1, 2, "|12a09|12a10");
            counted("9.9", 1, 2, "|9.9|9.0");
            counted("-1", 1, 2, "|-1|-2");
            counted("/0", -1, 2, "|/0|/9");
            counted(":9", 1, 2, "|:9|:0");
        });
        CHECK.test("terms: 200 digits count on, too", () -> {
            String head = "5".repeat(191);
            counted(head + "999999999", 1, 2, "|" + head + "999999999|" + head + "000000000");
        });
        CHECK.test("terms: data counts on before lines are cut", () -> {
            CHECK.due("in two lines", Houses.counted("^W2", "0199", 1, 2), "|01/99|02/00");
            CHECK.due("behind a blank", Houses.counted("^W2", "7 9", 1, 2), "|7/9|7/0");
            CHECK.due("behind byte 10", Houses.counted("^W9", "9_0A9", 1, 2), "|9/9|9/0");
        });
        CHECK.test("terms: data counts on before bytes of a picture are made", () -> {
            CHECK.due("digits", Houses.counted("^P", "3139", 1, 2), "|19|1@");
            CHECK.due("letters do not count", Houses.counted("^P", "4a49", 1, 2), "|JI|JP");
        });
        CHECK.test("terms: thirteen figures, squares and bars with their text count on", () -> {
            CHECK.due("N", Houses.counted("^N", "123456789999", 1, 2), "|123456789999|123456790000");
            CHECK.due("Q", Houses.counted("^Q", "a9", -1, 2), "|a9|a8");
            CHECK.due("B", Houses.counted("^B,,,1", "9", 1, 2), "|9/9|0/0");
        });
        CHECK.test("terms: a field that does not count on is the same in all copies", () ->
            CHECK.due("orders", Houses.orders("^L9,9^C2^X1^T^;^E"), "0 0 0 0 0 0 1 1 1|0 0 0 0 0 0 1 1 1"));
        CHECK.test("terms: data of a variable counts on, and the variable stays", () -> {
            LabelHouse house = new LabelHouse();
            Houses.read(house, "^K1,8^L9,9^C3^T^V1^#1^;^E^L9,9^T^V1^;^E");
            CHECK.due("copy 2", Houses.data(house, 2), "0");
            CHECK.due("the variable", Houses.data(house, 3), "8");
        });
    }
}
