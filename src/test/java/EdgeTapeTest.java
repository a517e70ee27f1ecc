/** Promises 2, 3, 6, 7 and 8, sentence by sentence: where the tape begins and ends, and what a reading leaves. */
public final class EdgeTapeTest {
    private static final Check CHECK = new Check();
    private static final int NONE = LabelHouse.NONE;

    public static void main(String[] args) {
        feed();
        fullTape();
        wipe();
        read();
        readWithFault();
        faultAndPlace();
        CHECK.exit();
    }

    /** A house whose tape has so many blanks. */
    private static LabelHouse filled(int size) {
        LabelHouse house = new LabelHouse();
        for (int left = size; left > 0; left -= 8) {
            house.feed(Math.min(8, left), 0x2020_2020_2020_2020L);
        }
        return house;
    }

    private static void feed() {
        CHECK.test("promise 2: n from 1 to 8 bytes come, the lowest first, and no more", () -> {
            for (int n = 1; n <= 8; n++) {
                LabelHouse house = new LabelHouse();
                Houses.feed(house, "^L9,9^T^X");
                CHECK.due("feed(" + n + ", ..)", house.feed(n, 0x4847_4645_4443_4241L), 9 + n);
                Houses.feed(house, "^;^E");
                CHECK.due("read()", house.read(), 1);
                CHECK.due("data", Houses.data(house, 0), "ABCDEFGH".substring(0, n));
            }
        });
        CHECK.test("promise 2: an n that is not 1 to 8 is refused, and nothing comes", () -> {
            for (int n : new int[] {0, 9, -1, Integer.MIN_VALUE, Integer.MAX_VALUE, 264, -248}) {
                LabelHouse house = filled(3);
                CHECK.badArgument("feed(" + n + ", -1)", () -> house.feed(n, -1));
                CHECK.due("wipe()", house.wipe(), 3);
            }
        });
        CHECK.test("promise 2: bytes from 128 to 255 come as they are", () -> {
            LabelHouse house = new LabelHouse();
            Houses.feed(house, "^L9,9^T^X");
            CHECK.due("feed(8, ..)", house.feed(8, 0xFFFE_C181_807F_0001L), 17);
            Houses.feed(house, "^;^E");
            CHECK.due("read()", house.read(), 1);
            CHECK.due("data(0, 0)", house.data(0, 0), 0xFFFE_C181_807F_0001L);
        });
    }

    private static void fullTape() {
        CHECK.test("promise 2: the tape has room for 4096 bytes and not for one more", () -> {
            for (int n = 1; n <= 8; n++) {
                LabelHouse house = filled(4096 - n);
                CHECK.due("feed(" + n + ", 32) up to the end", house.feed(n, 0x2020_2020_2020_2020L), 4096);
                LabelHouse full = filled(4097 - n);
                CHECK.due("feed(" + n + ", 32) beyond the end", full.feed(n, 0x2020_2020_2020_2020L), NONE);
                CHECK.due("wipe()", full.wipe(), 4097 - n);
            }
        });
        CHECK.test("promise 2: what answers NONE leaves no byte on the tape", () -> {
            LabelHouse house = filled(4084);
            Houses.feed(house, "^L9,9^F^;");
            CHECK.due("feed(4, ..)", house.feed(4, 'E'), NONE);
            CHECK.due("feed(3, ..)", house.feed(3, 0x20455E), 4096);
            CHECK.due("read()", house.read(), 1);
            CHECK.due("label(0, 3)", house.label(0, 3), 1);
        });
        CHECK.test("promise 2: a wrong n is refused before a full tape is", () -> {
            LabelHouse house = filled(4096);
            CHECK.badArgument("feed(0, 0)", () -> house.feed(0, 0));
            CHECK.badArgument("feed(9, 0)", () -> house.feed(9, 0));
            CHECK.due("feed(1, 0)", house.feed(1, 0), NONE);
        });
        CHECK.test("promise 2: the last byte of a full tape is read, too", () -> {
            LabelHouse byteThere = filled(4095);
            byteThere.feed(1, 'x');
            CHECK.due("read()", byteThere.read(), NONE);
            CHECK.due("fault()", byteThere.fault(), 1);
            CHECK.due("place()", byteThere.place(), 4095);
            LabelHouse end = filled(4091);
            Houses.feed(end, "^L9,9");
            CHECK.due("read()", end.read(), NONE);
            CHECK.due("fault()", end.fault(), 11);
            CHECK.due("place() of the end", end.place(), 4096);
        });
        CHECK.test("promise 2: what stood behind the tape's end before is not read", () -> {
            // a text that is longer, and a shorter one that would go on with its bytes
            String[][] texts = {{"^S1a^Z", "^S1a^"}, {"^L9,9", "^L9,"}, {"^L9,99^E", "^L9,9"}, {"^K1,a", "^K1"}, {"^K1,_41", "^K1,_4"},
                {"^L9,9^E", "^L9,9^"}, {"^L9,9^E", "^L9,9"}, {"^L9,9^T^Xab^;^E", "^L9,9^T^Xa"}};
            for (String[] pair : texts) {
                LabelHouse house = new LabelHouse();
                Houses.feed(house, pair[0]);
                house.wipe();
                CHECK.due(pair[1], Houses.result(house, pair[1]), Houses.result(pair[1]));
            }
            CHECK.due("a form without its end", Houses.result("^S1a^"), Houses.fault(7, 0));
        });
        CHECK.test("promise 2: a form without ^Z on a full tape, also one that ends with ^", () -> {
            for (String end : new String[] {"a", "^", "^z"}) {
                LabelHouse house = filled(4096 - 4 - end.length());
                Houses.feed(house, "^S1 " + end);
                CHECK.due("read()", house.read(), NONE);
                CHECK.due("fault()", house.fault(), 7);
            }
        });
        CHECK.test("promise 2: behind a reading or wipe() the tape takes 4096 bytes again", () -> {
            LabelHouse house = filled(4096);
            CHECK.due("read()", house.read(), 0);
            CHECK.due("feed(1, 32)", house.feed(1, 32), 1);
            LabelHouse wiped = filled(4096);
            CHECK.due("wipe()", wiped.wipe(), 4096);
            CHECK.due("feed(8, 32)", wiped.feed(8, 32), 8);
        });
    }

    private static void wipe() {
        CHECK.test("promise 3: wipe() tells how many bytes there were, of none and of a full tape", () -> {
            CHECK.due("wipe() of a new object", new LabelHouse().wipe(), 0);
            LabelHouse full = filled(4096);
            CHECK.due("wipe() of a full tape", full.wipe(), 4096);
            CHECK.due("wipe() again", full.wipe(), 0);
            LabelHouse one = filled(1);
            CHECK.due("wipe() of one byte", one.wipe(), 1);
        });
        CHECK.test("promise 3: the tape is empty then, and what is fed comes first", () -> {
            LabelHouse house = new LabelHouse();
            Houses.feed(house, "xyz");
            house.wipe();
            CHECK.due("feed(1, 'x')", house.feed(1, 'x'), 1);
            house.wipe();
            Houses.feed(house, "^L9,9^E");
            CHECK.due("read()", house.read(), 1);
        });
        CHECK.test("promise 3: wipe() leaves labels, forms, variables and the fault", () -> {
            LabelHouse house = new LabelHouse();
            Houses.read(house, "^S1^F3^;^Z^K1,abc^L9,8^T^V1^;^E");
            Houses.feed(house, "^Q");
            CHECK.due("wipe()", house.wipe(), 2);
            CHECK.due("label(0, 1)", house.label(0, 1), 8);
            CHECK.due("data", Houses.data(house, 0), "abc");
            CHECK.due("labels", Houses.read(house, "^L9,9^U1^T^V1^;^E"), 1);
            CHECK.due("orders", Houses.orders(house), "4 0 0 0 0 3 1 1 |0 0 0 0 0 0 1 1 abc");
            Houses.read(house, "^Y");
            CHECK.due("wipe()", house.wipe(), 2);
            CHECK.due("fault()", house.fault(), 2);
            CHECK.due("place()", house.place(), 0);
        });
    }

    private static void read() {
        CHECK.test("promise 6: read() of an empty tape answers 0", () -> {
            LabelHouse house = new LabelHouse();
            CHECK.due("read()", house.read(), 0);
            CHECK.due("fault()", house.fault(), 0);
            CHECK.due("place()", house.place(), NONE);
        });
        CHECK.test("promise 6: read() of blanks, of forms and of variables alone answers 0", () -> {
            CHECK.due("blanks", Houses.result(" \n\0 "), "0");
            CHECK.due("a form", Houses.result("^S1^F^Z"), "0");
            CHECK.due("a variable", Houses.result("^K1,a"), "0");
        });
        CHECK.test("promise 6: copies are counted, up to 12 labels", () -> {
            CHECK.due("one", Houses.result("^L9,9^E"), "1");
            CHECK.due("twelve copies", Houses.result("^L9,9^C12^E"), "12");
            CHECK.due("five and seven", Houses.result("^L9,9^C5^E^L9,9^C7^E"), "12");
            CHECK.due("twelve labels", Houses.result("^L9,9^E".repeat(12)), "12");
        });
        CHECK.test("promise 6: the labels and orders of before are no more, also when none comes", () -> {
            LabelHouse house = new LabelHouse();
            for (String text : new String[] {"", " ", "^K1,a", "^S1a^Z"}) {
                Houses.read(house, "^L9,9^F^;^F^;^C2^E");
                CHECK.due("label(1, 3)", house.label(1, 3), 2);
                CHECK.due("read()", Houses.read(house, text), 0);
                CHECK.due("label(0, 0)", house.label(0, 0), NONE);
                CHECK.outOfBounds("order(0, 0)", () -> house.order(0, 0));
                CHECK.outOfBounds("data(0, 0)", () -> house.data(0, 0));
                CHECK.outOfBounds("print(0)", () -> house.print(0));
            }
        });
        CHECK.test("promise 6: fewer labels and orders than before are all that there is", () -> {
            LabelHouse house = new LabelHouse();
            Houses.read(house, "^L9,9^F^;^F^;^F^;^C3^E");
            Houses.read(house, "^L7,7^F^;^E");
            CHECK.due("label(0, 0)", house.label(0, 0), 7);
            CHECK.due("label(1, 0)", house.label(1, 0), NONE);
            CHECK.outOfBounds("order(1, 0)", () -> house.order(1, 0));
        });
        CHECK.test("promise 6: the tape is empty then", () -> {
            LabelHouse house = new LabelHouse();
            Houses.read(house, "^L9,9^E");
            CHECK.due("wipe()", house.wipe(), 0);
            CHECK.due("feed(1, 32)", house.feed(1, 32), 1);
            CHECK.due("read()", house.read(), 0);
        });
        CHECK.test("promise 6: what is drawn, found and read stays", () -> {
            LabelHouse house = Houses.printed("^L30,30^Q1^Xa^;^E");
            house.scan(1, 1, 0);
            house.decode(0);
            String sheet = Houses.sheet(house);
            for (String text : new String[] {"^L9,9^E", "^Y"}) {
                Houses.read(house, text);
                CHECK.due("the sheet", Houses.sheet(house), sheet);
                CHECK.due("found(0, 3)", house.found(0, 3), 1);
                CHECK.due("reading(0)", house.reading(0), 0);
                CHECK.due("got(0)", house.got(0), 'a');
                CHECK.isTrue("drawn(0)", house.drawn(0) > 0);
            }
        });
    }

    private static void readWithFault() {
        CHECK.test("promise 6: with a fault the tape stays, to be fed on and read again", () -> {
            LabelHouse house = new LabelHouse();
            Houses.feed(house, "^L9,9^F^;");
            CHECK.due("read()", house.read(), NONE);
            CHECK.due("fault()", house.fault(), 11);
            CHECK.due("read() again", house.read(), NONE);
            CHECK.due("place()", house.place(), 9);
            CHECK.due("feed(2, ..)", house.feed(2, 0x455E), 11);
            CHECK.due("read()", house.read(), 1);
            CHECK.due("fault()", house.fault(), 0);
            CHECK.due("wipe()", house.wipe(), 0);
        });
        CHECK.test("promise 6: with a fault there are no labels and orders, not even those of before", () -> {
            LabelHouse house = new LabelHouse();
            for (String text : new String[] {"^Y", "^L9,9^F^;^E^Y", "^L9,9^F^;"}) {
                Houses.read(house, "^L9,9^F^;^E");
                CHECK.due("read()", Houses.read(house, text), NONE);
                CHECK.due("label(0, 0)", house.label(0, 0), NONE);
                CHECK.outOfBounds("order(0, 0)", () -> house.order(0, 0));
                CHECK.outOfBounds("data(0, 0)", () -> house.data(0, 0));
                CHECK.outOfBounds("print(0)", () -> house.print(0));
            }
        });
        CHECK.test("promise 6: forms and variables that were stored before a fault stay", () -> {
            LabelHouse house = new LabelHouse();
            Houses.read(house, "^S1^F3^;^Z^K1,abc^L9,9^K2,def^Y");
            CHECK.due("fault()", house.fault(), 2);
            CHECK.due("labels", Houses.read(house, "^L9,9^U1^T^V1^;^T^V2^;^E"), 1);
            CHECK.due("orders", Houses.orders(house), "4 0 0 0 0 3 1 1 |0 0 0 0 0 0 1 1 abc|0 0 0 0 0 0 1 1 def");
        });
        CHECK.test("promise 6: what stands behind a fault is not stored", () -> {
            LabelHouse house = new LabelHouse();
            Houses.read(house, "^S1^F3^;^Z^K1,abc");
            Houses.read(house, "^Y^S1^F4^;^Z^K1,def");
            Houses.read(house, "^L9,9^U1^T^V1^;^E");
            CHECK.due("orders", Houses.orders(house), "4 0 0 0 0 3 1 1 |0 0 0 0 0 0 1 1 abc");
        });
        CHECK.test("promise 6: the command that has the fault stores nothing", () -> {
            String[] wrong = {"^S1" + "a".repeat(401) + "^Z", "^S1^F4^;", "^S1,^F4^;^Z", "^S8^F4^;^Z", "^K1,de_", "^K1,de_4x",
                "^K1," + "d".repeat(201), "^K10,def", "^K1def"};
            LabelHouse house = new LabelHouse();
            for (String text : wrong) {
                Houses.read(house, "^S1^F3^;^Z^K1,abc");
                CHECK.due("read()", Houses.read(house, text), NONE);
                Houses.read(house, "^L9,9^U1^T^V1^;^E");
                CHECK.due("orders", Houses.orders(house), "4 0 0 0 0 3 1 1 |0 0 0 0 0 0 1 1 abc");
            }
        });
    }

    private static void faultAndPlace() {
        CHECK.test("promise 7: fault() is 0 when there was no reading, and when the last one met none", () -> {
            LabelHouse house = new LabelHouse();
            CHECK.due("fault() of a new object", house.fault(), 0);
            Houses.feed(house, "^Y");
            CHECK.due("fault() before the reading", house.fault(), 0);
            house.read();
            CHECK.due("fault()", house.fault(), 2);
            Houses.read(house, "^L9,9^E");
            CHECK.due("fault() behind a right one", house.fault(), 0);
        });
        CHECK.test("promise 7: fault() tells each of 1 to 11", () -> {
            String[] texts = {"a", "^Y", "^E", "^L-", "^L0", "^K,_", "^S", "^L9,9^T^;", "^L9,9^U", "^L9,9^C12^E^L9,9^E", "^L9,9"};
            int[] places = {0, 0, 0, 0, 0, 0, 0, 7, 5, 16, 5};
            for (int i = 0; i < texts.length; i++) {
                CHECK.due(texts[i], Houses.result(texts[i]), Houses.fault(i + 1, places[i]));
            }
        });
        CHECK.test("promise 7: fault() is that of the last read(), whatever else is called", () -> {
            LabelHouse house = new LabelHouse();
            Houses.read(house, "^L9,9^Q51");
            house.wipe();
            Houses.feed(house, "^L9,9^E");
            house.turn(1);
            house.scan(1, 1, 0);
            house.bars(0, 0, true);
            house.spoil(0, 0, 1);
            CHECK.due("fault()", house.fault(), 5);
            CHECK.due("place()", house.place(), 5);
        });
        CHECK.test("promise 8: place() is NONE when there is no fault", () -> {
            LabelHouse house = new LabelHouse();
            CHECK.due("place() of a new object", house.place(), NONE);
            Houses.read(house, "  x");
            CHECK.due("place()", house.place(), 2);
            Houses.read(house, " ^L9,9^E ");
            CHECK.due("place() behind a right one", house.place(), NONE);
            house.read();
            CHECK.due("place() behind an empty one", house.place(), NONE);
        });
        CHECK.test("promise 8: the place of a fault is that of its ^, from the first byte of the tape to the last", () -> {
            CHECK.due("the first", Houses.result("^"), Houses.fault(2, 0));
            CHECK.due("behind blanks", Houses.result("\0\37 ^"), Houses.fault(2, 3));
            CHECK.due("the last of 4096", Houses.result(" ".repeat(4095) + "^"), Houses.fault(2, 4095));
            CHECK.due("far in its data", Houses.result("^L9,9^X" + "a".repeat(300)), Houses.fault(6, 5));
            CHECK.due("far in a form", Houses.result(" ^S1" + "a".repeat(401) + "^Z"), Houses.fault(7, 1));
        });
        CHECK.test("promise 8: the place of fault 1 is that of the byte", () -> {
            CHECK.due("the first", Houses.result("x"), Houses.fault(1, 0));
            CHECK.due("behind blanks", Houses.result("^L9,9 \n x^E"), Houses.fault(1, 8));
            CHECK.due("right behind a command", Houses.result("^L9,9^H1x"), Houses.fault(1, 8));
        });
        CHECK.test("promise 8: the place of fault 11 is the end, behind blanks, too", () -> {
            CHECK.due("at once", Houses.result("^L9,9"), Houses.fault(11, 5));
            CHECK.due("behind blanks", Houses.result("^L9,9 \0 "), Houses.fault(11, 8));
            CHECK.due("behind data", Houses.result("^L9,9^Xabc"), Houses.fault(11, 10));
            CHECK.due("behind a form that was read", Houses.result("^S1^F^Z^L9,9^U1 "), Houses.fault(11, 16));
        });
        CHECK.test("promise 8: within a form it is the place of the ^ of the outermost U", () -> {
            CHECK.due("one deep", Houses.result("^S1^Y^Z^L9,9 ^U1^E"), Houses.fault(2, 13));
            CHECK.due("a byte", Houses.result("^S1^Rx^Z^L9,9 ^U1^E"), Houses.fault(1, 14));
            CHECK.due("four deep", Houses.result("^S1^U2^Z^S2^R^U3^Z^S3^U4^Z^S4^R^C13^Z^L9,9^U1^E"), Houses.fault(5, 42));
            CHECK.due("the last of several", Houses.result("^S1^R^Z^S2^Y^Z^L9,9^U1^U1^U2"), Houses.fault(2, 25));
            CHECK.due("a field of before ends in a form", Houses.result("^S1^;^Z^L9,9^T^U1"), Houses.fault(8, 14));
        });
        CHECK.test("promise 8: behind a form it is the place on the tape again", () -> {
            CHECK.due("a byte", Houses.result("^S1^R^Z^L9,9^U1x"), Houses.fault(1, 15));
            CHECK.due("a ^", Houses.result("^S1^R^Z^L9,9^U1 ^Y"), Houses.fault(2, 16));
        });
    }
}
