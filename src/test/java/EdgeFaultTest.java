/** Faults of the tape, sentence by sentence: ranges, fields that cannot be, limits, and which fault comes first. */
public final class EdgeFaultTest {
    private static final Check CHECK = new Check();

    public static void main(String[] args) {
        ranges();
        places();
        withoutData();
        kindsOfData();
        countingData();
        lines();
        orders();
        labels();
        commands();
        end();
        first();
        CHECK.exit();
    }

    private static void due(String text, String want) {
        CHECK.due(text.length() > 70 ? text.substring(0, 70) + ".." : text, Houses.result(text), want);
    }

    /** The place of the fault is where @ stands, which is not on the tape. */
    private static void due(String marked, int fault) {
        due(marked.replace("@", ""), Houses.fault(fault, marked.indexOf('@')));
    }

    /** A field that can be, and one that cannot. */
    private static void can(String field) {
        due("^L9,9" + field + "^;^E", "1");
    }

    private static void cannot(String field) {
        due("^L9,9" + field + "@^;^E", 8);
    }

    /** The number at * is allowed from least to most, and refused on both sides. */
    private static void range(String what, String text, int least, int most) {
        CHECK.test("ranges: " + what + " " + least + " .. " + most, () -> {
            LabelHouse house = new LabelHouse();
            String right = text.startsWith("^L") ? "1" : "0";
            String wrong = Houses.fault(5, text.startsWith("^L9,9") ? 5 : 0);
            for (int value : new int[] {least, least + 1, most - 1, most}) {
                CHECK.due(text + " " + value, Houses.result(house, text.replace("*", "" + value)), right);
            }
            for (int value : new int[] {least - 1, most + 1, -99999, 99999}) {
                CHECK.due(text + " " + value, Houses.result(house, text.replace("*", "" + value)), wrong);
            }
        });
    }

    private static void inLabel(String what, String command, int least, int most) {
        range(what, "^L9,9" + command + "^E", least, most);
    }

    private static void ranges() {
        range("w of L", "^L*,1^E", 1, 512);
        range("h of L", "^L1,*^E", 1, 512);
        range("k of S", "^S*a^Z", 0, 7);
        range("k of K", "^K*,a", 0, 9);
        inLabel("k of K in a label", "^K*,a", 0, 9);
        inLabel("x of H", "^H*", -4096, 4096);
        inLabel("y of H", "^H,*", -4096, 4096);
        inLabel("x of O", "^O*", -4096, 4096);
        inLabel("y of O", "^O,*", -4096, 4096);
        inLabel("n of C", "^C*^C1", 1, 12);
        for (String letter : new String[] {"D", "T"}) {
            inLabel("f of " + letter, "^" + letter + "*", 0, 3);
            inLabel("p of " + letter, "^" + letter + ",*", 1, 10);
            inLabel("q of " + letter, "^" + letter + ",,*", 1, 10);
            inLabel("r of " + letter, "^" + letter + ",,,*", 0, 3);
        }
        inLabel("k of V", "^V*", 0, 9);
        inLabel("s of #", "^#*", -99, 99);
        inLabel("n of W", "^W*", 1, 99);
        inLabel("l of W", "^W1,*", 0, 999);
        inLabel("a of W", "^W1,,*", 0, 2);
        inLabel("u of W", "^W1,,,*", 0, 999);
        for (String letter : new String[] {"B", "N"}) {
            inLabel("m of " + letter, "^" + letter + "*", 1, 50);
            inLabel("h of " + letter, "^" + letter + ",*", 1, 2048);
            inLabel("r of " + letter, "^" + letter + ",,*", 0, 3);
        }
        inLabel("m of Q", "^Q*", 1, 50);
        inLabel("l of Q", "^Q,*", 0, 3);
        inLabel("k of Q", "^Q,,*", -1, 7);
        inLabel("r of Q", "^Q,,,*", 0, 3);
        for (String letter : new String[] {"F", "I"}) {
            inLabel("w of " + letter, "^" + letter + "*", 1, 2048);
            inLabel("h of " + letter, "^" + letter + ",*", 1, 2048);
            inLabel("t of " + letter, "^" + letter + ",,*", 1, 200);
        }
        inLabel("x of G", "^G*", -4096, 4096);
        inLabel("y of G", "^G,*", -4096, 4096);
        inLabel("t of G", "^G,,*", 1, 200);
        inLabel("w of P", "^P*", 1, 1024);
        CHECK.test("ranges: c of B 0 .. 1", () -> {
            for (int c = -1; c <= 2; c++) {
                due("^L9,9^B,,," + c + "^E", c < 0 || c > 1 ? Houses.fault(5, 5) : "1");
            }
        });
        CHECK.test("ranges: k of U 0 .. 7", () -> {
            for (int k = -1; k <= 8; k++) {
                String stored = "^S" + Math.min(7, Math.max(0, k)) + "^R^Z";
                due(stored + "^L9,9^U" + k + "^E", k < 0 || k > 7 ? Houses.fault(5, stored.length() + 5) : "1");
            }
        });
        CHECK.test("ranges: what is left out of T is in range wherever texts are", () -> {
            can("^D3,10,10,3^Xa^T");
            can("^D3,10,10,3^Xa^T0");
        });
    }

    private static void places() {
        CHECK.test("faults: 8 is a place of an order that is not -4096 .. 4096, home and origin together", () -> {
            for (String kind : new String[] {"^F", "^I", "^G", "^T^Xa", "^B^Xa", "^Q^Xa", "^P^Xff", "^N^X123456789012", "^W1^Xa"}) {
                can("^O4096,-4096" + kind);
                can("^O-4096,4096" + kind);
                can("^H4096,4096^O-4096,-4096" + kind);
                can("^H2048,-2048^O2048,-2048" + kind);
                cannot("^H1^O4096" + kind);
                cannot("^H-1^O-4096" + kind);
                cannot("^H,1^O,4096" + kind);
                cannot("^H,-1^O,-4096" + kind);
                cannot("^H4096,4096^O4096,4096" + kind);
            }
        });
        CHECK.test("faults: 8 counts home as it is where the field ends", () -> {
            can("^H4096^O4096^F^H0");
            cannot("^H0^O4096^F^H1");
        });
        CHECK.test("faults: 8 is a line whose place and x, y together are not -4096 .. 4096", () -> {
            can("^O4000,4000^G96,96");
            cannot("^O4000,4000^G97,96");
            cannot("^O4000,4000^G96,97");
            can("^O-4000,-4000^G-96,-96");
            cannot("^O-4000,-4000^G-97,-96");
            cannot("^O-4000,-4000^G-96,-97");
            can("^O-4096,4096^G4096,-4096");
            can("^H1,1^O4095,4095^G-4096,-4096");
            cannot("^H0,1^O0,4000^G0,96");
        });
        CHECK.test("faults: 8 does not look at where frames, ellipses and pictures end", () -> {
            can("^O4096,4096^F2048,2048,1");
            can("^O4096,4096^I2048,2048,1");
            can("^O4096,4096^P8^Xffff");
        });
        CHECK.test("faults: 8 is a place of the text of bars that is not -4096 .. 4096, at each quarter", () -> {
            can("^O,4000^B,93,0,1^Xa");
            cannot("^O,4000^B,94,0,1^Xa");
            can("^O-4000^B,93,1,1^Xa");
            cannot("^O-4000^B,94,1,1^Xa");
            can("^O,-4000^B,93,2,1^Xa");
            cannot("^O,-4000^B,94,2,1^Xa");
            can("^O4000^B,93,3,1^Xa");
            cannot("^O4000^B,94,3,1^Xa");
            can("^O,4000^B,94,0,0^Xa");
        });
        CHECK.test("faults: 8 is a place of any line of a block that is not -4096 .. 4096", () -> {
            can("^O,4000^W1,48^Xabc");
            cannot("^O,4000^W1,49^Xabc");
            can("^O,-4000^D,,,2^W1,48^Xabc");
            cannot("^O,-4000^D,,,2^W1,49^Xabc");
            can("^O4000^W9,,1,12^Xa");
            cannot("^O4001^W9,,1,12^Xa");
            can("^O4000^W9,,2,24^Xa");
            cannot("^O4001^W9,,2,24^Xa");
            can("^O4096^W9,,0,999^Xa");
            can("^O4096^W9,,1,999^X123456789");
            cannot("^O4096^W9,,1,1^X123456789_0A12345678");
        });
    }

    private static void withoutData() {
        CHECK.test("faults: 8 is a field of kind 0 to 3 or 7, or a block, without a byte of data", () -> {
            for (String kind : new String[] {"^T", "^W9", "^B", "^B,,,1", "^N", "^Q", "^P"}) {
                cannot(kind);
                cannot(kind + "^X");
                cannot(kind + "^V5");
            }
            can("^T^X_00");
            can("^W9^X_0A");
            can("^B^X_00");
            can("^Q^X_00");
        });
        CHECK.test("faults: fields of kind 4 to 6 need no data, and may have some", () -> {
            for (String kind : new String[] {"^F", "^I", "^G"}) {
                can(kind);
                can(kind + "^X");
                can(kind + "^Xany");
            }
        });
        CHECK.test("faults: data of the field before is no data of the next", () -> cannot("^T^Xa^;^T"));
    }

    private static void kindsOfData() {
        CHECK.test("faults: 8 is N with data that is not twelve digits", () -> {
            can("^N^X123456789012");
            can("^N^X000000000000");
            can("^N^X999999999999");
            cannot("^N^X12345678901");
            cannot("^N^X1234567890123");
            cannot("^N^X1");
            for (String other : new String[] {"/", ":", "a", " ", "_00", "_B1"}) {
                cannot("^N^X" + other + "23456789012");
                cannot("^N^X12345678901" + other);
            }
        });
        CHECK.test("faults: 8 is P with data that is not pairs of hexadecimal digits", () -> {
            can("^P^X09afAF");
            cannot("^P^X0");
            cannot("^P^X012");
            for (String other : new String[] {"/", ":", "_40", "G", "`", "g", " ", "_00", "_B1"}) {
                cannot("^P^X" + other + "0");
                cannot("^P^X0" + other);
            }
            can("^P^X" + "f".repeat(200));
            cannot("^P^X" + "f".repeat(199));
        });
        CHECK.test("faults: 8 is P whose last row is not whole, by as many bytes as w bits take", () -> {
            for (int w : new int[] {1, 8, 9, 16, 17, 24, 25}) {
                int bytes = (w + 7) / 8;
                for (int rows = 1; rows <= 3; rows++) {
                    can("^P" + w + "^X" + "5a".repeat(rows * bytes));
                    if (bytes > 1) {
                        cannot("^P" + w + "^X" + "5a".repeat(rows * bytes - 1));
                        cannot("^P" + w + "^X" + "5a".repeat(rows * bytes + 1));
                    }
                }
            }
            can("^P800^X" + "5a".repeat(100));
            cannot("^P801^X" + "5a".repeat(100));
            cannot("^P792^X" + "5a".repeat(100));
            cannot("^P1024^X" + "5a".repeat(100));
        });
    }

    private static void countingData() {
        CHECK.test("faults: 8 is a field that counts on and whose data does not end with a digit", () -> {
            for (String kind : new String[] {"^T", "^W99", "^B", "^Q"}) {
                can(kind + "^Xa0^#1");
                can(kind + "^Xa9^#1");
                can(kind + "^X5^#1");
                for (String end : new String[] {"/", ":", "a", " ", "_00", "_B5"}) {
                    cannot(kind + "^X5" + end + "^#1");
                    can(kind + "^X5" + end);
                }
            }
            can("^N^X123456789012^#1");
            can("^P^Xa0^#1");
            cannot("^P^X0a^#1");
        });
        CHECK.test("faults: 8 holds for kinds 4 to 6, too, without data as well", () -> {
            for (String kind : new String[] {"^F", "^I", "^G"}) {
                cannot(kind + "^#1");
                cannot(kind + "^#1^X");
                cannot(kind + "^#1^X5a");
                can(kind + "^#1^Xa5");
            }
        });
        CHECK.test("faults: 8 holds for one that counts on by 0", () -> {
            cannot("^T^Xa^#0");
            cannot("^T^Xa^#");
            can("^T^X1^#0");
        });
        CHECK.test("faults: 8 looks at data told by V, and by the later of X and V", () -> {
            due("^K1,a1^K2,1a^L9,9^T^V1^#1^;^E", "1");
            due("^K1,a1^K2,1a^L9,9^T^V2^#1@^;^E", 8);
            due("^K1,a1^K2,1a^L9,9^T^V2^X5^#1^;^E", "1");
            due("^K1,a1^K2,1a^L9,9^T^X5^V2^#1@^;^E", 8);
        });
        CHECK.test("faults: 8 looks at all of a block's data, not at its lines", () -> {
            can("^W2^Xab c1^#1");
            cannot("^W2^Xa1 bc^#1");
            cannot("^W2^Xa1_0A^#1");
        });
    }

    private static void lines() {
        CHECK.test("faults: 8 is a block of more than 20 lines", () -> {
            can("^W1^X" + "a".repeat(20));
            cannot("^W1^X" + "a".repeat(21));
            can("^W99^X" + "_0A".repeat(19));
            cannot("^W99^X" + "_0A".repeat(20));
            can("^W10^X" + "a".repeat(200));
            cannot("^W9^X" + "a".repeat(181));
            can("^W9^X" + "a".repeat(180));
            cannot("^W1^X" + "a".repeat(200));
            cannot("^W1^X" + "_0A".repeat(200));
            can("^W1^X" + "a ".repeat(19));
            cannot("^W1^X" + "a ".repeat(20));
        });
        CHECK.test("faults: a text that is no block has no lines", () -> {
            can("^T^X" + "_0A".repeat(200));
            can("^W1^T^X" + "a".repeat(200));
        });
    }

    private static void orders() {
        String frame = "^F^;";
        CHECK.test("faults: 10 is ; with which the label has more than 120 orders", () -> {
            due("^L9,9" + frame.repeat(120) + "^E", "1");
            due("^L9,9" + frame.repeat(120) + "^F@^;", 10);
        });
        CHECK.test("faults: 10 counts both orders of bars with their text", () -> {
            due("^L9,9" + frame.repeat(118) + "^Xa^B,,,1^;^E", "1");
            due("^L9,9" + frame.repeat(119) + "^Xa^B,,,1@^;", 10);
            due("^L9,9" + frame.repeat(119) + "^Xa^B,,,0^;^E", "1");
        });
        CHECK.test("faults: 10 counts an order for each line of a block", () -> {
            due("^L9,9" + frame.repeat(100) + "^W1^X" + "a".repeat(20) + "^;^E", "1");
            due("^L9,9" + frame.repeat(101) + "^W1^X" + "a".repeat(20) + "@^;", 10);
            due("^L9,9" + frame.repeat(120) + "^W1^X" + "a".repeat(20) + "@^;", 10);
        });
        CHECK.test("faults: 10 is E with which there are more than 120 orders, with all copies", () -> {
            due("^L9,9" + frame.repeat(60) + "^C2^E", "2");
            due("^L9,9" + frame.repeat(61) + "^C2@^E", 10);
            due("^L9,9" + frame.repeat(10) + "^C12^E", "12");
            due("^L9,9" + frame.repeat(11) + "^C11@^E", 10);
            due("^L9,9^F^;^E^L9,9" + frame.repeat(119) + "^E", "2");
            due("^L9,9^F^;^E^L9,9" + frame.repeat(120) + "@^E", 10);
            due("^L9,9" + frame.repeat(120) + "^E^L9,9^E", "2");
            due("^L9,9" + frame.repeat(120) + "^E^L9,9^F^;@^E", 10);
        });
        CHECK.test("faults: 10 counts no orders of a field that is dropped", () -> {
            due("^L9,9" + frame.repeat(120) + "^F^E", "1");
        });
        CHECK.test("terms: all 120 orders are there", () -> {
            LabelHouse house = new LabelHouse();
            StringBuilder text = new StringBuilder("^L9,9");
            for (int i = 0; i < 120; i++) {
                text.append("^F").append(i + 1).append("^;");
            }
            CHECK.due("read()", Houses.read(house, text + "^E"), 1);
            for (int i = 0; i < 120; i++) {
                CHECK.due("order(" + i + ", 5)", house.order(i, 5), i + 1);
            }
            CHECK.outOfBounds("order(120, 5)", () -> house.order(120, 5));
            CHECK.due("print(0)", house.print(0), 120);
            CHECK.due("drawn(119)", house.drawn(119), 9);
            CHECK.due("drawn(120)", house.drawn(120), -1);
        });
    }

    private static void labels() {
        CHECK.test("faults: 10 is E with which there are more than 12 labels, with all copies", () -> {
            due("^L9,9^E".repeat(12), "12");
            due("^L9,9^E".repeat(12) + "^L9,9@^E", 10);
            due("^L9,9^C12^E", "12");
            due("^L9,9^C12^E^L9,9@^E", 10);
            due("^L9,9^E^L9,9^C12@^E", 10);
            due("^L9,9^C6^E^L9,9^C6^E", "12");
            due("^L9,9^C6^E^L9,9^C7@^E", 10);
        });
        CHECK.test("faults: 10 counts the copies that are told last", () -> {
            due("^L9,9^C12^C1^E".repeat(12), "12");
            due("^L9,9^E^L9,9^C11^C12@^E", 10);
        });
    }

    /** Forms, a label's beginning and so many commands in all; one more command comes behind them. */
    private static String ofCommands(int count) {
        // S, L, and some times U with the 195 commands of form 1
        int uses = (count - 2) / 196;
        return "^S1" + "^R".repeat(195) + "^Z^L9,9" + "^U1".repeat(uses) + "^R".repeat((count - 2) % 196);
    }

    private static void commands() {
        CHECK.test("faults: 10 is the two thousandth command of a reading, not the one before it", () -> {
            due(ofCommands(1998) + "^E", "1");
            due(ofCommands(1999) + "@^E", 10);
            due(ofCommands(1999) + "@^R", 10);
            due(ofCommands(1998) + "^R@^E", 10);
        });
        CHECK.test("faults: 10 counts each kind of command, also K, X, ; and U", () -> {
            for (String command : new String[] {"^K1,a", "^Xa", "^H1", "^C1", "^D1", "^O1", "^V1", "^#1", "^T", "^W1", "^B", "^N", "^Q",
                "^F", "^I", "^G", "^P", "^R"}) {
                due(ofCommands(1997) + command + "^E", "1");
                due(ofCommands(1998) + command + "@^E", 10);
                due(ofCommands(1999) + "@" + command + "^E", 10);
            }
            due(ofCommands(1996) + "^F^;^E", "1");
            due(ofCommands(1998) + "^F@^;^E", 10);
            due(ofCommands(1999) + "@^U1^E", 10);
        });
        CHECK.test("faults: 10 counts S, L and E, but ^Z is none", () -> {
            due(ofCommands(1997) + "^E^K1,a", "1");
            due(ofCommands(1997) + "^E^K1,a@^K1,a", 10);
            due(ofCommands(1997) + "^E^S2a^Z", "1");
            due(ofCommands(1997) + "^E^S2a^Z@^S2a^Z", 10);
            due(ofCommands(1997) + "^E^S2a^Z@^L9,9^E", 10);
            due(ofCommands(1996) + "^E^L9,9^E", "2");
            due(ofCommands(1997) + "^E^L9,9@^E", 10);
        });
        CHECK.test("faults: 10 within a form has the place of U", () -> {
            due(ofCommands(1803) + "^U1^E", Houses.fault(10, ofCommands(1803).length() + 3));
            due(ofCommands(1802) + "^U1^E", "1");
            due(ofCommands(1804) + "@^U1^E", 10);
        });
        CHECK.test("faults: 10 does nothing: what the two thousandth command would store is not stored", () -> {
            LabelHouse house = new LabelHouse();
            Houses.read(house, "^K1,old");
            CHECK.due("read()", Houses.read(house, ofCommands(1999) + "^K1,new"), -1);
            Houses.read(house, "^L9,9^T^V1^;^E");
            CHECK.due("variable 1", Houses.data(house, 0), "old");
        });
        CHECK.test("faults: 10 counts from each reading's beginning anew", () -> {
            LabelHouse house = new LabelHouse();
            for (int i = 0; i < 3; i++) {
                CHECK.due("read()", Houses.read(house, ofCommands(1998) + "^E"), 1);
            }
        });
    }

    private static void end() {
        CHECK.test("faults: 11 is a text that ends in a label, not one that ends outside", () -> {
            due("^L9,9@", 11);
            due("^L9,9 @", 11);
            due("^L9,9^F^;@", 11);
            due("^L9,9^F@", 11);
            due("^L9,9^E^L1,1@", 11);
            due("^L9,9^E", "1");
            due("^S1^F^;^Z^L9,9^U1@", 11);
        });
    }

    private static void first() {
        CHECK.test("faults: the first command that has one counts", () -> {
            due("@^L9,^Y", 5);
            due("^L9,9@^C13^Y", 5);
            due("^L9,9@^T9^;", 5);
            due("@x^Y", 1);
            due("@^Yx", 2);
        });
        CHECK.test("faults: 2 comes before 10", () -> due(ofCommands(1999) + "@^Y", 2));
        CHECK.test("faults: 3 comes before 4, 5, 6, 7, 9 and 10", () -> {
            due("@^H-", 3);
            due("@^H1,2,3", 3);
            due("@^C13", 3);
            due("@^X_", 3);
            due("^L9,9@^S1", 3);
            due("@^U", 3);
            due(ofCommands(1999) + "@^;", 3);
            due(ofCommands(1999) + "@^L9,9", 3);
        });
        CHECK.test("faults: 4 comes before 5, 6, 7, 9 and 10", () -> {
            due("^L9,9@^H9999,0,", 4);
            due("^L9,9@^H9999,-", 4);
            due("@^L999999", 4);
            due("@^K99_", 4);
            due("@^K_", 4);
            due("@^S-", 4);
            due("@^S9,", 4);
            due("^L9,9@^U0,", 4);
            due(ofCommands(1999) + "@^H-", 4);
        });
        CHECK.test("faults: 5 comes before 6, 7, 9 and 10", () -> {
            due("@^K10,_", 5);
            due("@^K-1," + "a".repeat(201), 5);
            due("@^S8", 5);
            due("@^S8" + "a".repeat(401) + "^Z", 5);
            due("^L9,9@^U8", 5);
            due(ofCommands(1999) + "@^C13", 5);
        });
        CHECK.test("faults: 6 and 7 come before 10", () -> {
            due(ofCommands(1999) + "@^X_", 6);
            due(ofCommands(1998) + "^E@^S2", 7);
        });
        CHECK.test("faults: 8 comes before 10", () -> {
            due("^L9,9" + "^F^;".repeat(120) + "^T@^;", 8);
            due("^L9,9" + "^F^;".repeat(120) + "^W1^X" + "a".repeat(21) + "@^;", 8);
            due("^L9,9" + "^F^;".repeat(120) + "^H4096^O1^F@^;", 8);
            due(ofCommands(1998) + "^T@^;", 8);
        });
        CHECK.test("faults: 9 comes before 10", () -> due(ofCommands(1999) + "@^U2", 9));
        CHECK.test("faults: 10 comes before 11", () -> due(ofCommands(1999) + "@^R", 10));
    }
}
