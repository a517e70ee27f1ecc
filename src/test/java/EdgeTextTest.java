/** The language of labels, sentence by sentence: bytes, letters, numbers, data, forms and variables. */
public final class EdgeTextTest {
    private static final Check CHECK = new Check();
    private static final String LETTERS = "SKLEHCDUORXV#TWBNQFIGP;";

    public static void main(String[] args) {
        bytes();
        letters();
        numbers();
        leftOut();
        data();
        forms();
        variables();
        uses();
        CHECK.exit();
    }

    private static void due(String text, String want) {
        CHECK.due(text.length() > 70 ? text.substring(0, 70) + ".." : text, Houses.result(text), want);
    }

    private static void due(String text, int fault, int place) {
        due(text, Houses.fault(fault, place));
    }

    /** The place of the fault is where @ stands, which is not on the tape. */
    private static void due(String marked, int fault) {
        due(marked.replace("@", ""), fault, marked.indexOf('@'));
    }

    /** As due(), by a house that is used for many texts, none of which uses what another one stores. */
    private static void due(LabelHouse house, String text, String want) {
        CHECK.due(text, Houses.result(house, text), want);
    }

    private static void bytes() {
        CHECK.test("terms: bytes from 0 to 32 are left out where a command may begin, others are fault 1", () -> {
            LabelHouse house = new LabelHouse();
            for (int b = 0; b < 256; b++) {
                String text = (char) b + "^L9,9^E";
                due(house, text, b <= 32 ? "1" : Houses.fault(b == '^' ? 2 : 1, 0));
            }
        });
        CHECK.test("terms: they are left out in a label, behind it, and behind a form and a variable", () -> {
            LabelHouse house = new LabelHouse();
            for (int b = 0; b < 256; b++) {
                String c = String.valueOf((char) b);
                int fault = b == '^' ? 2 : 1;
                due(house, "^L9,9^R" + c + "^E", b <= 32 ? "1" : Houses.fault(fault, 7));
                due(house, "^L9,9^E" + c, b <= 32 ? "1" : Houses.fault(fault, 7));
                due(house, "^S1a^Z" + c, b <= 32 ? "0" : Houses.fault(fault, 6));
            }
        });
        CHECK.test("terms: they are left out in a form, too", () -> {
            LabelHouse house = new LabelHouse();
            for (int b = 0; b < 256; b++) {
                String c = String.valueOf((char) b);
                String due = b <= 32 ? "1" : Houses.fault(b == '^' ? 2 : 1, 17);
                due(house, "^S1^R" + c + "^F^;^Z^L9,9^U1^E", due);
                due(house, "^S1^R^F^;" + c + "^Z^L9,9^U1^E", due);
            }
        });
        CHECK.test("terms: they are not left out behind ^, and behind the letter they end its numbers", () -> {
            for (char c : new char[] {0, 10, 32}) {
                due("^" + c + "L9,9^E", 2, 0);
                due("^L" + c + "9,9^E", 5, 0);
                due("^L9" + c + ",9^E", 5, 0);
                due("^L9,9^H" + c + "1^E", 1, 8);
                due("^L9,9^H1" + c + ",1^E", 1, 9);
                due("^L9,9^H1," + c + "1^E", 1, 10);
                due("^L9,9^H-" + c + "1^E", 4, 5);
                due("^K1" + c + ",a", 4, 0);
            }
        });
        CHECK.test("terms: as many blanks as the tape has are left out", () -> {
            due(" ".repeat(4096), "0");
            due("\0".repeat(4089) + "^L9,9^E", "1");
        });
    }

    private static void letters() {
        CHECK.test("faults: 2 is a letter that is none of these, outside a label", () -> {
            LabelHouse house = new LabelHouse();
            for (int b = 0; b < 256; b++) {
                int at = LETTERS.indexOf(b);
                int fault = at < 0 ? 2 : b == 'S' ? 7 : b == 'K' ? 4 : b == 'L' ? 5 : 3;
                due(house, "^" + (char) b, Houses.fault(fault, 0));
            }
        });
        CHECK.test("faults: 2 is a letter that is none of these, in a label", () -> {
            LabelHouse house = new LabelHouse();
            for (int b = 0; b < 256; b++) {
                String text = "^L9,9^" + (char) b;
                if (b == 'E') {
                    due(house, text, "1");
                } else if (LETTERS.indexOf(b) < 0) {
                    due(house, text, Houses.fault(2, 5));
                } else {
                    int fault = b == 'S' || b == 'L' || b == ';' ? 3 : b == 'K' ? 4 : b == 'U' ? 9 : b == 'W' ? 5 : 11;
                    due(house, text, Houses.fault(fault, fault == 11 ? 7 : 5));
                }
            }
        });
        CHECK.test("faults: 2 is Z where no form is stored, and a ^ with nothing behind it", () -> {
            due("^Z", 2, 0);
            due("^L9,9^Z", 2, 5);
            due("^S1a^Z^Z", 2, 6);
            due("^", 2, 0);
            due("^L9,9^", 2, 5);
            due("^S1^R^^Z^L9,9@^U1", 2);
        });
        CHECK.test("faults: 3 is a command that cannot stand outside a label", () -> {
            for (char letter : "EHCDUORXV#TWBNQFIGP;".toCharArray()) {
                due("^" + letter, 3, 0);
                due("^L9,9^E^" + letter, 3, 7);
            }
        });
        CHECK.test("faults: 3 is S or L in a label, and E, S or L in a form", () -> {
            due("^L9,9^S1a^Z", 3, 5);
            due("^L9,9^L9,9", 3, 5);
            for (String command : new String[] {"^E", "^S2", "^L9,9"}) {
                String form = "^S1" + command + "^Z";
                due(form + "^L9,9@^U1^E", 3);
                due(form + "^S2^U1^Z^L9,9@^U2^E", 3);
            }
        });
        CHECK.test("terms: K stands outside a label, in one, and in a form", () -> {
            due("^K1,a", "0");
            due("^L9,9^K1,a^E", "1");
            due("^S1^K1,a^Z^L9,9^U1^E", "1");
        });
        CHECK.test("faults: 3 is ; without a kind, also right behind a field or a label's beginning", () -> {
            due("^L9,9^;", 3, 5);
            due("^L9,9^O1,1^R^X1^#1@^;", 3);
            due("^L9,9^F^;^;", 3, 9);
            due("^L9,9^F^E^L9,9^;", 3, 14);
        });
    }

    /** The letters that have numbers, how many, and numbers that are in range for each of them. */
    private static final String[][] NUMBERED = {{"H", "1,2"}, {"C", "1"}, {"D", "0,1,1,0"}, {"O", "1,2"}, {"V", "0"}, {"#", "1"},
        {"T", "0,1,1,0"}, {"W", "1,0,0,0"}, {"B", "1,1,0,0"}, {"N", "1,1,0"}, {"Q", "1,1,1,0"}, {"F", "1,1,1"}, {"I", "1,1,1"},
        {"G", "0,0,1"}, {"P", "8"}};

    private static void numbers() {
        CHECK.test("terms: a command has up to as many numbers as it has; faults: 4 is a comma behind the last one", () -> {
            for (String[] row : NUMBERED) {
                String all = "^L9,9^" + row[0] + row[1];
                due(all + "^E", "1");
                due(all + ",^E", 4, 5);
                due(all + ",1^E", 4, 5);
                String[] parts = row[1].split(",");
                String some = "^L9,9^" + row[0];
                for (String part : parts) {
                    some += part;
                    due(some + "^E", "1");
                    some += ",";
                }
            }
            due("^L9,9^E", "1");
            due("^L9,9,^E", 4, 0);
            due("^S1,^Z", 4, 0);
            due("^S,^Z", 4, 0);
            due("^S1^R^Z^L9,9@^U1,^E", 4);
        });
        CHECK.test("terms: a command without numbers has no comma to look at", () -> {
            for (String letter : new String[] {"R", "E"}) {
                due("^L9,9^" + letter + ",", 1, 7);
                due("^L9,9^" + letter + "1", 1, 7);
            }
            due("^L9,9^F^;,", 1, 9);
        });
        CHECK.test("terms: a number has one to five digits; faults: 4 is one of six", () -> {
            due("^L00009,00009^E", "1");
            due("^L000009,9^E", 4, 0);
            due("^L9,000009^E", 4, 0);
            due("^L9,9^H-00001,-04096^E", "1");
            due("^L9,9^H-000001^E", 4, 5);
            due("^L9,9^H,-000001^E", 4, 5);
            due("^K00001,a", "0");
            due("^K000001,a", 4, 0);
            due("^S00001a^Z", "0");
            due("^S000001a^Z", 4, 0);
            due("^L9,9^H99999^E", 5, 5);
            due("^L9,9^H100000^E", 4, 5);
        });
        CHECK.test("faults: 4 is a minus without a digit behind it", () -> {
            due("^L9,9^H-^E", 4, 5);
            due("^L9,9^H-", 4, 5);
            due("^L9,9^H-,1^E", 4, 5);
            due("^L9,9^H1,-^E", 4, 5);
            due("^L9,9^H--1^E", 4, 5);
            due("^K-,a", 4, 0);
            due("^S-a^Z", 4, 0);
            due("^S1^H-^Z^L9,9@^U1 1", 4);
        });
        CHECK.test("terms: a minus before digits counts, also before 0", () -> {
            CHECK.due("-7, -0", Houses.ofLabel("^O-7,-0^F^;"), "4 -7 0 0 0 1 1 1 ");
            CHECK.due("-00007", Houses.ofLabel("^O,-00007^F^;"), "4 0 -7 0 0 1 1 1 ");
        });
        CHECK.test("terms: a plus, a minus behind digits and a point are no part of a number", () -> {
            due("^L9,9^H+1^E", 1, 7);
            due("^L9,9^H1-^E", 1, 8);
            due("^L9,9^H1.5^E", 1, 8);
            due("^L9,9^H1:^E", 1, 8);
            due("^L9,9^H/^E", 1, 7);
        });
        CHECK.test("terms: numbers of a command end with its form", () -> {
            due("^S1^H1^Z^L9,9@^U12^E", 5);
            CHECK.due("H1 and 2", Houses.orders("^S1^H1^Z^L9,9^U1^F^;^E"), "4 1 0 0 0 1 1 1 ");
            due("^S1^H-^Z^L9,9@^U1^E", 4);
            due("^S1^H1,^Z^L9,9^U1 @2^E", 1);
        });
    }

    private static void leftOut() {
        CHECK.test("terms: a number that is left out is 0, or what [ ] tells, without a comma and behind the last one", () -> {
            CHECK.due("O", Houses.ofLabel("^O^F^;^O,^F^;^O5^F^;^O5,^F^;^O,5^F^;"),
                "4 0 0 0 0 1 1 1 |4 0 0 0 0 1 1 1 |4 5 0 0 0 1 1 1 |4 5 0 0 0 1 1 1 |4 0 5 0 0 1 1 1 ");
            CHECK.due("H", Houses.ofLabel("^H^F^;^H5,6^H7^F^;^H,8^F^;"), "4 0 0 0 0 1 1 1 |4 7 0 0 0 1 1 1 |4 0 8 0 0 1 1 1 ");
            CHECK.due("B", Houses.ofLabel("^Xa^B^;^Xa^B,,,^;^Xa^B3,,1^;"), "1 0 0 0 0 2 50 0 a|1 0 0 0 0 2 50 0 a|1 0 0 1 0 3 50 0 a");
            CHECK.due("N", Houses.ofLabel("^X123456789012^N^;^X123456789012^N,7,^;"),
                "2 0 0 0 0 2 50 0 123456789012|2 0 0 0 0 2 7 0 123456789012");
            CHECK.due("Q", Houses.ofLabel("^Xa^Q^;^Xa^Q,,,^;^Xa^Q5,0,,3^;"), "3 0 0 0 0 2 1 -1 a|3 0 0 0 0 2 1 -1 a|3 0 0 3 0 5 0 -1 a");
            CHECK.due("F", Houses.ofLabel("^F^;^F,,^;^F,4^;"), "4 0 0 0 0 1 1 1 |4 0 0 0 0 1 1 1 |4 0 0 0 0 1 4 1 ");
            CHECK.due("I", Houses.ofLabel("^I^;^I,,^;^I,4^;"), "5 0 0 0 0 1 1 1 |5 0 0 0 0 1 1 1 |5 0 0 0 0 1 4 1 ");
            CHECK.due("G", Houses.ofLabel("^G^;^G,,^;^G,4^;"), "6 0 0 0 0 0 0 1 |6 0 0 0 0 0 0 1 |6 0 0 0 0 0 4 1 ");
            CHECK.due("P", Houses.ofLabel("^Xff^P^;"), "7 0 0 0 0 8 0 0 \377");
            CHECK.due("W", Houses.ofLabel("^Xab^W1^;^Xab^W1,,,^;"),
                "0 0 0 0 0 0 1 1 a|0 0 0 0 0 0 1 1 b|0 0 0 0 0 0 1 1 a|0 0 0 0 0 0 1 1 b");
            CHECK.due("W, a left out is 0, the left", Houses.ofLabel("^Xab^W5,7,,10^;"), "0 0 0 0 0 0 1 1 ab");
            CHECK.due("W, u left out is 0", Houses.ofLabel("^Xab^W5,7,1^;"), "0 0 0 0 0 0 1 1 ab");
            CHECK.due("W, l left out is 0", Houses.ofLabel("^Xab^W1,,1,9^;"), "0 0 0 0 0 0 1 1 a|0 0 0 0 0 0 1 1 b");
        });
        CHECK.test("terms: D left out makes texts 0, 1, 1, 0 again; T left out is as texts are there", () -> {
            CHECK.due("D", Houses.ofLabel("^D3,4,5,1^Xa^T^;^Xa^T,,9^;^D,6^Xa^T^;^D^Xa^T^;^D,,,2^Xa^T,,,^;"),
                "0 0 0 1 0 3 4 5 a|0 0 0 1 0 3 4 9 a|0 0 0 0 0 0 6 1 a|0 0 0 0 0 0 1 1 a|0 0 0 2 0 0 1 1 a");
        });
        CHECK.test("terms: C left out is one copy, # left out is 0, V left out is variable 0", () -> {
            due("^L9,9^C5^C^E", "1");
            CHECK.due("#", Houses.orders("^L9,9^C2^X7^T^#5^#^;^E"), "0 0 0 0 0 0 1 1 7|0 0 0 0 0 0 1 1 7");
            CHECK.due("V", Houses.orders("^K,a^K1,b^L9,9^V^T^;^E"), "0 0 0 0 0 0 1 1 a");
        });
        CHECK.test("terms: U and S left out are form 0, K left out is variable 0", () -> {
            CHECK.due("S, U", Houses.orders("^S^F2^;^Z^S1^F3^;^Z^L9,9^U^E"), "4 0 0 0 0 2 1 1 ");
            CHECK.due("K", Houses.orders("^K,a^L9,9^V0^T^;^E"), "0 0 0 0 0 0 1 1 a");
        });
        CHECK.test("terms: L and the n of W have no number to be left out", () -> {
            due("^L^E", 5, 0);
            due("^L,^E", 5, 0);
            due("^L9^E", 5, 0);
            due("^L,9^E", 5, 0);
            due("^L9,9^W^E", 5, 5);
            due("^L9,9^W,1^E", 5, 5);
        });
    }

    private static void data() {
        CHECK.test("terms: data is all bytes up to the next ^, each but _ as it is", () -> {
            LabelHouse house = new LabelHouse();
            for (int b = 0; b < 256; b++) {
                if (b != '^' && b != '_') {
                    due(house, "^L9,9^T^X" + (char) b + "x^;^E", "1");
                    CHECK.due("byte " + b, Houses.data(house, 0), (char) b + "x");
                }
            }
        });
        CHECK.test("terms: _ and two hexadecimal digits of both cases stand for each byte", () -> {
            LabelHouse house = new LabelHouse();
            for (int b = 0; b < 256; b++) {
                for (String form : new String[] {"_%02x", "_%02X"}) {
                    String text = String.format(form, b);
                    due(house, "^L9,9^T^Xx" + text + "0^;^E", "1");
                    CHECK.due(text, Houses.data(house, 0), "x" + (char) b + "0");
                }
            }
        });
        CHECK.test("faults: 6 is _ not before two hexadecimal digits", () -> {
            LabelHouse house = new LabelHouse();
            for (int b = 0; b < 256; b++) {
                boolean hex = "0123456789ABCDEFabcdef".indexOf(b) >= 0;
                for (String text : new String[] {"_" + (char) b + "0", "_0" + (char) b}) {
                    due(house, "^L9,9^T^X" + text + "^;^E", hex ? "1" : Houses.fault(6, 7));
                    due(house, "^K1," + text, hex ? "0" : Houses.fault(6, 0));
                }
            }
            for (String text : new String[] {"_", "_1", "a_", "__", "_41_", "_41_4"}) {
                due("^K1," + text, 6, 0);
                due("^K1," + text + "^K2,a", 6, 0);
                due("^L9,9^X" + text + "^E", 6, 5);
            }
        });
        CHECK.test("terms: data ends with its form; faults: 6 is _ whose digits stand behind the form", () -> {
            CHECK.due("data", Houses.orders("^S1^T^Xab^Z^L9,9^U1 ^;^E"), "0 0 0 0 0 0 1 1 ab");
            due("^S1^T^Xab^Z^L9,9^U1@c^;^E", 1);
            due("^S1^X_^Z^L9,9@^U1 41^E", 6);
            due("^S1^X_^Z^L9,9@^U1^E", 6);
            due("^S1^X_4^Z^L9,9@^U1^E", 6);
            due("^S1^X_41^Z^L9,9^U1^E", "1");
        });
        CHECK.test("faults: 6 is data of more than 200 bytes", () -> {
            for (String command : new String[] {"^L9,9^X", "^L9,9^K1,"}) {
                due(command + "a".repeat(200) + "^E", "1");
                due(command + "a".repeat(201) + "^E", 6, 5);
                due(command + "a".repeat(201), 6, 5);
            }
            due("^K1," + "a".repeat(200), "0");
            due("^K1," + "a".repeat(201), 6, 0);
            due("^K1," + "a".repeat(4092), 6, 0);
        });
        CHECK.test("terms: _ and its digits are one byte of the 200", () -> {
            due("^K1," + "_41".repeat(200), "0");
            due("^K1," + "_41".repeat(201), 6, 0);
            due("^K1," + "_41" + "a".repeat(199), "0");
            due("^K1," + "a".repeat(200) + "_41", 6, 0);
        });
        CHECK.test("terms: data of 200 bytes is all there", () -> {
            String text = "abcdefghi ".repeat(20);
            CHECK.due("by X", Houses.ofLabel("^T^X" + text + "^;"), "0 0 0 0 0 0 1 1 " + text);
            CHECK.due("by V", Houses.orders("^K9," + text + "^L9,9^T^V9^;^E"), "0 0 0 0 0 0 1 1 " + text);
        });
        CHECK.test("terms: data may be empty", () -> {
            due("^L9,9^X^E", "1");
            due("^K1,", "0");
            due("^L9,9^Xa^X^T@^;", 8);
            CHECK.due("for a frame", Houses.ofLabel("^Xa^X^F^;"), "4 0 0 0 0 1 1 1 ");
        });
    }

    private static void forms() {
        CHECK.test("terms: forms 0 to 7 are rows of their own", () -> {
            StringBuilder text = new StringBuilder();
            StringBuilder uses = new StringBuilder("^L9,9");
            StringBuilder due = new StringBuilder();
            for (int k = 0; k < 8; k++) {
                text.append("^S").append(k).append("^F").append(k + 1).append("^;").append("^R".repeat(197)).append("^Z");
                uses.append("^U").append(7 - k).append("^F1^;");
                due.append(k == 0 ? "" : "|").append("4 0 0 0 0 ").append(8 - k).append(" 1 1 |4 0 0 0 2 1 1 1 ");
            }
            CHECK.due("all forms", Houses.orders(text.toString() + uses + "^E"), due.toString());
        });
        CHECK.test("terms: a form has up to 400 bytes; faults: 7 is one of more", () -> {
            String form = "^R".repeat(198) + "^F^;";
            CHECK.due("400 bytes", Houses.orders("^S1" + form + "^Z^L9,9^U1^E"), "4 0 0 0 2 1 1 1 ");
            due("^S1" + form + " ^Z", 7, 0);
            due("^S1 " + "^R".repeat(198) + "^F^;^Z", 7, 0);
            due("^S1" + "a".repeat(400) + "^Z", "0");
            due("^S1" + "a".repeat(401) + "^Z", 7, 0);
            due("^S1" + "a".repeat(4000) + "^Z", 7, 0);
        });
        CHECK.test("faults: 7 is a form without ^Z", () -> {
            due("^S1", 7, 0);
            due("^S1^F^;", 7, 0);
            due("^S1^F^;^", 7, 0);
            due("^S1^F^;Z", 7, 0);
            due("^S1^F^;^z", 7, 0);
            due("^S1^F^; ^ Z", 7, 0);
            due("^S1^F^;^Z", "0");
        });
        CHECK.test("terms: a form ends at the next ^Z, which may come at once, or behind a ^", () -> {
            due("^S1^Z^L9,9@^U1", 9);
            due("^S1^^Z^L9,9@^U1", 2);
            CHECK.due("the first ^Z", Houses.orders("^S1^F2^;^Z ^S2^F3^;^Z^L9,9^U1^E"), "4 0 0 0 0 2 1 1 ");
            due("^S1^R^Z^Z", 2, 7);
        });
        CHECK.test("terms: a form cannot begin with a figure or a comma", () -> {
            due("^S12^Z", 5, 0);
            due("^S1,^Z", 4, 0);
            due("^S,^Z", 4, 0);
            CHECK.due("S72 is 72, not form 7", Houses.result("^S72^F^;^Z"), Houses.fault(5, 0));
            due("^S1 ^F^;^Z", "0");
        });
        CHECK.test("terms: what a form holds is not looked at before it is used", () -> {
            due("^S1^S2^Y_xyz^;^Z", "0");
        });
        CHECK.test("terms: a later form counts in place of an earlier one, also a shorter and an empty one", () -> {
            CHECK.due("shorter", Houses.orders("^S1^F2^;^F3^;^Z^S1^F4^;^Z^L9,9^U1^E"), "4 0 0 0 0 4 1 1 ");
            due("^S1^F2^;^Z^S1^Z^L9,9@^U1^E", 9);
        });
        CHECK.test("terms: forms and variables stay from one reading to the next", () -> {
            LabelHouse house = new LabelHouse();
            Houses.read(house, "^S7^F2^;^Z^K9,abc");
            Houses.read(house, "");
            for (int i = 0; i < 2; i++) {
                Houses.read(house, "^L9,9^U7^T^V9^;^E");
                CHECK.due("orders", Houses.orders(house), "4 0 0 0 0 2 1 1 |0 0 0 0 0 0 1 1 abc");
            }
        });
    }

    private static void variables() {
        CHECK.test("terms: variables 0 to 9 are rows of their own, of up to 200 bytes", () -> {
            StringBuilder text = new StringBuilder();
            StringBuilder uses = new StringBuilder("^L9,9");
            StringBuilder due = new StringBuilder();
            for (int k = 0; k < 10; k++) {
                text.append("^K").append(k).append(',').append(String.valueOf(k).repeat(200));
                uses.append("^T^V").append(k).append("^;");
                due.append(k == 0 ? "" : "|").append("0 0 0 0 0 0 1 1 ").append(String.valueOf(k).repeat(200));
            }
            CHECK.due("all variables", Houses.orders(text.toString() + uses + "^E"), due.toString());
        });
        CHECK.test("terms: K has its comma, also when k is left out; faults: 4 is K without it", () -> {
            due("^K,a", "0");
            due("^K", 4, 0);
            due("^K1", 4, 0);
            due("^Ka", 4, 0);
            due("^K1a", 4, 0);
            due("^K1^K2,a", 4, 0);
            due("^S1^K1^Z^L9,9@^U1 ,a", 4);
        });
        CHECK.test("terms: behind its comma all is data, also figures and commas", () -> {
            CHECK.due("data", Houses.orders("^K1,1,2,-^L9,9^T^V1^;^E"), "0 0 0 0 0 0 1 1 1,2,-");
        });
        CHECK.test("terms: variables are empty at first, and a shorter or an empty row takes the place of a longer", () -> {
            due("^L9,9^T^V9^;^E", 8, 10);
            CHECK.due("shorter", Houses.orders("^K1,abc^K1,d^L9,9^T^V1^;^E"), "0 0 0 0 0 0 1 1 d");
            due("^K1,abc^K1,^L9,9^T^V1@^;^E", 8);
        });
        CHECK.test("terms: V takes the data of a variable as they are then", () -> {
            CHECK.due("K behind V", Houses.orders("^K1,a^L9,9^T^V1^K1,b^;^T^V1^;^E"), "0 0 0 0 0 0 1 1 a|0 0 0 0 0 0 1 1 b");
            due("^L9,9^T^Xa^V1^K1,b@^;^E", 8);
        });
    }

    /** Forms that use one another: form k uses form k + 1, the last one draws a frame. */
    private static String chain(int forms) {
        StringBuilder text = new StringBuilder();
        for (int k = 0; k < forms; k++) {
            text.append("^S").append(k).append(k == forms - 1 ? "^F^;" : "^U" + (k + 1)).append("^Z");
        }
        return text.toString();
    }

    private static void uses() {
        CHECK.test("terms: U reads a form there, and behind it a command must begin again", () -> {
            CHECK.due("before and behind", Houses.orders("^S1^F2^;^Z^L9,9^F1^;^U1^F3^;^E"),
                "4 0 0 0 0 1 1 1 |4 0 0 0 0 2 1 1 |4 0 0 0 0 3 1 1 ");
            due("^S1^F2^Z^L9,9@^U1,3^;^E", 4);
            due("^S1^X1^Z^L9,9^U1@a^E", 1);
            CHECK.due("a field goes on behind a form", Houses.orders("^S1^O5,6^Z^L9,9^R^U1^F^;^E"), "4 5 6 0 2 1 1 1 ");
        });
        CHECK.test("faults: 9 is U of an empty form", () -> {
            for (int k = 0; k < 8; k++) {
                due("^L9,9^U" + k + "^E", 9, 5);
            }
            due("^S1^U2^Z^L9,9@^U1^E", 9);
        });
        CHECK.test("faults: 9 is U within four others already", () -> {
            String four = chain(4);
            due(four + "^L9,9^U0^E", "1");
            String five = chain(5);
            due(five + "^L9,9@^U0^E", 9);
            due(five + "^L9,9^U1^E", "1");
            due("^S0^U0^Z^L9,9@^U0", 9);
        });
        CHECK.test("terms: a form that has ended does not count as one of the four", () -> {
            String four = chain(4);
            due(four + "^L9,9^U0^U0^U1^U0^E", "1");
            due("^S3^R^Z^S2^U3^U3^U3^Z^S1^U2^U2^Z^S0^U1^U1^Z^L9,9^U0^U0^E", "1");
        });
    }
}
