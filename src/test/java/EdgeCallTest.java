/** Promises 1, 4, 5, 9, 10, 11 and 13, sentence by sentence: what may be asked for, and what is refused. */
public final class EdgeCallTest {
    private static final Check CHECK = new Check();
    private static final int NONE = LabelHouse.NONE;
    private static final int LEAST = Integer.MIN_VALUE;
    private static final int MOST = Integer.MAX_VALUE;

    public static void main(String[] args) {
        newObject();
        fonts();
        cells();
        labels();
        orders();
        data();
        drawn();
        CHECK.exit();
    }

    private static void newObject() {
        CHECK.test("promise 1: the tape is empty", () -> {
            CHECK.due("wipe()", new LabelHouse().wipe(), 0);
            CHECK.due("feed(1, 32)", new LabelHouse().feed(1, 32), 1);
        });
        CHECK.test("promise 1: forms 0 to 7 and variables 0 to 9 are empty", () -> {
            for (int k = 0; k < 8; k++) {
                CHECK.due("form " + k, Houses.result("^L9,9^U" + k), Houses.fault(9, 5));
            }
            for (int k = 0; k < 10; k++) {
                CHECK.due("variable " + k, Houses.result("^L9,9^T^V" + k + "^;"), Houses.fault(8, 10));
            }
        });
        CHECK.test("promise 1: fonts 0 to 3 have cells of 8 times 8 dots without dark ones, and no gap", () -> {
            for (int f = 0; f < 4; f++) {
                int font = f;
                LabelHouse house = new LabelHouse();
                StringBuilder all = new StringBuilder();
                for (int code = 0; code < 256; code++) {
                    all.append(String.format("_%02x", code));
                }
                Houses.read(house, "^L512,16^T" + font + "^X" + all.substring(0, 384) + "^;^T" + font + "^X" + all.substring(384)
                    + "^;^E^L24,8^T" + font + "^XAAA^;^E");
                CHECK.due("print(0)", house.print(0), 2);
                CHECK.due("told(6)", house.told(6), 0);
                house.cell(font, 'A', 7, 0x81);
                house.print(1);
                CHECK.due("row 7", Houses.row(house, 7), "#......##......##......#");
                CHECK.outOfBounds("row 8", () -> cell(house, font, 'A', 8, 0));
            }
        });
        CHECK.test("promise 1: there are no labels and orders, and nothing was drawn", () -> {
            LabelHouse house = new LabelHouse();
            CHECK.due("label(0, 0)", house.label(0, 0), NONE);
            CHECK.outOfBounds("order(0, 0)", () -> house.order(0, 0));
            CHECK.outOfBounds("data(0, 0)", () -> house.data(0, 0));
            CHECK.outOfBounds("print(0)", () -> house.print(0));
            CHECK.due("drawn(0)", house.drawn(0), NONE);
            CHECK.due("fault()", house.fault(), 0);
            CHECK.due("place()", house.place(), NONE);
        });
        CHECK.test("promise 1: the sheet has 64 times 64 light dots", () -> {
            LabelHouse house = new LabelHouse();
            CHECK.due("told(0)", house.told(0), 64);
            CHECK.due("told(1)", house.told(1), 64);
            CHECK.due("told(6)", house.told(6), 0);
            CHECK.due("run(0, 0, 0, false)", house.run(0, 0, 0, false), 64);
            CHECK.due("run(63, 63, 0, true)", house.run(63, 63, 0, true), 1);
            CHECK.outOfBounds("run(64, 0, 0, false)", () -> house.run(64, 0, 0, false));
            CHECK.due("spoil(63, 63, 3)", house.spoil(63, 63, 3), 1);
        });
        CHECK.test("promise 1: nothing is found or read", () -> {
            LabelHouse house = new LabelHouse();
            CHECK.outOfBounds("decode(0)", () -> house.decode(0));
            for (int what = 0; what < 6; what++) {
                CHECK.due("found(0, " + what + ")", house.found(0, what), NONE);
                CHECK.due("reading(" + what + ")", house.reading(what), NONE);
            }
            CHECK.due("reading(6)", house.reading(6), 0);
            CHECK.due("got(0)", house.got(0), 0);
        });
        CHECK.test("promise 1: objects have nothing in common", () -> {
            LabelHouse one = new LabelHouse();
            LabelHouse other = new LabelHouse();
            Houses.read(one, "^S1^F^;^Z^K1,a^L9,9^E");
            one.font(0, 2, 2, 2);
            one.spoil(0, 0, -1);
            CHECK.due("label(0, 0)", other.label(0, 0), NONE);
            CHECK.due("told(6)", other.told(6), 0);
            CHECK.due("form 1", Houses.result(other, "^L9,9^U1"), Houses.fault(9, 5));
            CHECK.due("variable 1", Houses.result(other, "^L9,9^T^V1^;"), Houses.fault(8, 10));
            CHECK.due("row 7", cell(other, 0, 0, 7, 0), 0);
        });
    }

    private static long cell(LabelHouse house, int font, int code, int r, int bits) {
        house.cell(font, code, r, bits);
        return 0;
    }

    private static long font(LabelHouse house, int font, int w, int h, int gap) {
        house.font(font, w, h, gap);
        return 0;
    }

    /** A house whose font has the cell A all dark, and the row that two of them give. */
    private static String twoCells(int font, int w, int h, int gap) {
        LabelHouse house = new LabelHouse();
        house.font(font, w, h, gap);
        for (int r = 0; r < h; r++) {
            house.cell(font, 'A', r, -1);
        }
        Houses.read(house, "^L100,40^XAA^T" + font + "^;^E");
        house.print(0);
        CHECK.due("rows of " + h, house.run(0, 0, 0, true), h);
        String row = Houses.row(house, h - 1);
        return row.replaceAll("\\.+$", "");
    }

    private static void fonts() {
        CHECK.test("promise 4: the least and the largest w, h and gap of each font", () -> {
            for (int f = 0; f < 4; f++) {
                CHECK.due("1, 1, 0", twoCells(f, 1, 1, 0), "##");
                CHECK.due("1, 1, 32", twoCells(f, 1, 1, 32), "#" + ".".repeat(32) + "#");
                CHECK.due("32, 32, 32", twoCells(f, 32, 32, 32), "#".repeat(32) + ".".repeat(32) + "#".repeat(32));
                CHECK.due("32, 1, 0", twoCells(f, 32, 1, 0), "#".repeat(64));
                CHECK.due("1, 32, 1", twoCells(f, 1, 32, 1), "#.#");
            }
        });
        refusedFont("font is not 0 .. 3", new int[][] {{-1, 1, 1, 0}, {4, 1, 1, 0}, {LEAST, 1, 1, 0}, {MOST, 1, 1, 0}});
        refusedFont("w is not 1 .. 32", new int[][] {{0, 0, 1, 0}, {0, 33, 1, 0}, {0, LEAST, 1, 0}, {0, MOST, 1, 0}});
        refusedFont("h is not 1 .. 32", new int[][] {{0, 1, 0, 0}, {0, 1, 33, 0}, {0, 1, LEAST, 0}, {0, 1, MOST, 0}});
        refusedFont("gap is not 0 .. 32", new int[][] {{0, 1, 1, -1}, {0, 1, 1, 33}, {0, 1, 1, LEAST}, {0, 1, 1, MOST}});
        CHECK.test("promise 4: all cells of the font are without dark dots then, also with the same size", () -> {
            LabelHouse house = new LabelHouse();
            for (int code : new int[] {0, 1, 'A', 127, 128, 255}) {
                house.cell(1, code, 0, 255);
                house.cell(1, code, 7, 255);
            }
            Houses.read(house, "^L64,64^X_00_01A_7F_80_FF^T1^;^E");
            house.print(0);
            CHECK.due("dark dots before", house.told(6), 96);
            house.font(1, 8, 8, 0);
            house.print(0);
            CHECK.due("dark dots then", house.told(6), 0);
        });
        CHECK.test("promise 4: rows that were left out of smaller cells are not dark in larger ones", () -> {
            LabelHouse house = new LabelHouse();
            house.cell(0, 'A', 7, 255);
            house.font(0, 8, 4, 0);
            house.font(0, 8, 8, 0);
            Houses.read(house, "^L64,64^XA^T^;^E");
            house.print(0);
            CHECK.due("dark dots", house.told(6), 0);
        });
        CHECK.test("promise 4: the first and the last cells of the fonts beside it stay as they are", () -> {
            for (int font = 0; font < 4; font++) {
                LabelHouse house = new LabelHouse();
                for (int f = 0; f < 4; f++) {
                    house.font(f, 8, 32, 0);
                    house.cell(f, 0, 0, 255);
                    house.cell(f, 0, 31, 255);
                    house.cell(f, 255, 0, 255);
                    house.cell(f, 255, 31, 255);
                }
                house.font(font, 8, 32, 0);
                Houses.read(house, "^L64,32^X_00_FF^T^;^O16^X_00_FF^T1^;^O32^X_00_FF^T2^;^O48^X_00_FF^T3^;^E");
                house.print(0);
                for (int f = 0; f < 4; f++) {
                    CHECK.due("drawn(" + f + ")", house.drawn(f), f == font ? 0 : 32);
                }
            }
        });
        CHECK.test("promise 4: the other fonts, and what is drawn already, stay as they are", () -> {
            LabelHouse house = new LabelHouse();
            for (int f = 0; f < 4; f++) {
                house.cell(f, 'A', 0, 1 << f);
            }
            Houses.read(house, "^L8,4^XA^T^;^O,1^XA^T1^;^O,2^XA^T2^;^O,3^XA^T3^;^E");
            house.print(0);
            String all = ".......# ......#. .....#.. ....#...";
            CHECK.due("all", Houses.sheet(house), all);
            house.font(2, 8, 8, 0);
            CHECK.due("the sheet", Houses.sheet(house), all);
            house.print(0);
            CHECK.due("without font 2", Houses.sheet(house), ".......# ......#. ........ ....#...");
        });
    }

    private static void refusedFont(String what, int[][] rows) {
        CHECK.test("promise 4: refused, " + what + ", and nothing has changed", () -> {
            LabelHouse house = new LabelHouse();
            house.font(0, 3, 2, 1);
            house.cell(0, 'A', 1, 5);
            for (int[] row : rows) {
                CHECK.badArgument("font of " + row[0] + ", " + row[1] + ", " + row[2] + ", " + row[3],
                    () -> font(house, row[0], row[1], row[2], row[3]));
            }
            Houses.read(house, "^L10,3^XAA^T^;^E");
            house.print(0);
            CHECK.due("the sheet", Houses.sheet(house), ".......... #.#.#.#... ..........");
        });
    }

    private static void cells() {
        CHECK.test("promise 5: column c is dark if bit w - 1 - c is 1, at both ends of each w", () -> {
            for (int w = 1; w <= 32; w++) {
                LabelHouse house = new LabelHouse();
                house.font(0, w, 3, 0);
                house.cell(0, 'A', 0, 1);
                house.cell(0, 'A', 1, 1 << (w - 1));
                house.cell(0, 'A', 2, w == 32 ? 0 : -1 << w);
                Houses.read(house, "^L33,3^XA^T^;^E");
                house.print(0);
                CHECK.due("the lowest bit", house.dots(0, 0), 1L << (w - 1));
                CHECK.due("the highest bit", house.dots(0, 1), 1);
                CHECK.due("bits from w on are left out", house.dots(0, 2), 0);
            }
        });
        CHECK.test("promise 5: a row gets other dots in place of those it had", () -> {
            LabelHouse house = new LabelHouse();
            house.cell(0, 'A', 0, 0xF0);
            house.cell(0, 'A', 0, 0x0F);
            Houses.read(house, "^L8,1^XA^T^;^E");
            house.print(0);
            CHECK.due("row 0", Houses.row(house, 0), "....####");
        });
        CHECK.test("promise 5: codes 0 and 255, and the first and last row of fonts 0 and 3", () -> {
            for (int font : new int[] {0, 3}) {
                LabelHouse house = new LabelHouse();
                house.font(font, 2, 32, 0);
                house.cell(font, 0, 0, 1);
                house.cell(font, 0, 31, 2);
                house.cell(font, 255, 0, 3);
                house.cell(font, 255, 31, 3);
                Houses.read(house, "^L4,32^X_00_FF^T" + font + "^;^E");
                house.print(0);
                CHECK.due("row 0", Houses.row(house, 0), ".###");
                CHECK.due("row 31", Houses.row(house, 31), "#.##");
                CHECK.due("dark dots", house.told(6), 6);
            }
        });
        CHECK.test("promise 5: refused, font is not 0 .. 3, or code not 0 .. 255", () -> {
            LabelHouse house = new LabelHouse();
            for (int font : new int[] {-1, 4, LEAST, MOST}) {
                CHECK.badArgument("font " + font, () -> cell(house, font, 0, 0, -1));
            }
            for (int code : new int[] {-1, 256, LEAST, MOST}) {
                CHECK.badArgument("code " + code, () -> cell(house, 0, code, 0, -1));
            }
            light(house);
        });
        CHECK.test("promise 5: refused, its cells have no row r", () -> {
            LabelHouse house = new LabelHouse();
            house.font(1, 8, 1, 0);
            house.font(2, 8, 32, 0);
            int[] rows = {8, 1, 32, 8};
            for (int f = 0; f < 4; f++) {
                int font = f;
                for (int r : new int[] {-1, rows[f], rows[f] + 1, LEAST, MOST}) {
                    CHECK.outOfBounds("row " + r + " of font " + font, () -> cell(house, font, 0, r, -1));
                }
                CHECK.due("the last row", cell(house, font, 0, rows[f] - 1, 0), 0);
            }
            light(house);
        });
        CHECK.test("promise 5: a wrong font or code is refused before a wrong row is", () -> {
            LabelHouse house = new LabelHouse();
            CHECK.badArgument("font 4, row 99", () -> cell(house, 4, 0, 99, -1));
            CHECK.badArgument("font -1, row -1", () -> cell(house, -1, 0, -1, -1));
            CHECK.badArgument("code 256, row 8", () -> cell(house, 0, 256, 8, -1));
            CHECK.badArgument("code -1, row -1", () -> cell(house, 0, -1, -1, -1));
        });
    }

    /** No cell of a font, least of all those of the first and the last code, has got dots. */
    private static void light(LabelHouse house) {
        Houses.read(house, "^L512,40^X_00_01_FE_FF^T^;^X_00_01_FE_FF^T1^;^X_00_01_FE_FF^T2^;^X_00_01_FE_FF^T3^;^E");
        CHECK.due("print(0)", house.print(0), 4);
        CHECK.due("dark dots", house.told(6), 0);
    }

    private static void labels() {
        CHECK.test("promise 9: width, height, the first order and how many, of the first and the last label", () -> {
            LabelHouse house = new LabelHouse();
            Houses.read(house, "^L1,512^E^L512,1^F^;^F^;^C10^E^L7,8^F^;^E");
            int[] first = {1, 512, 0, 0};
            int[] last = {7, 8, 20, 1};
            for (int what = 0; what < 4; what++) {
                CHECK.due("label(0, " + what + ")", house.label(0, what), first[what]);
                CHECK.due("label(11, " + what + ")", house.label(11, what), last[what]);
            }
        });
        CHECK.test("promise 9: NONE when there is no such label", () -> {
            LabelHouse house = new LabelHouse();
            Houses.read(house, "^L9,9^C12^E");
            for (int k : new int[] {-1, 12, LEAST, MOST}) {
                for (int what = 0; what < 4; what++) {
                    CHECK.due("label(" + k + ", " + what + ")", house.label(k, what), NONE);
                }
            }
        });
        CHECK.test("promise 9: refused, another what, before it is NONE", () -> {
            LabelHouse house = new LabelHouse();
            for (int what : new int[] {-1, 4, LEAST, MOST}) {
                CHECK.badArgument("label(0, " + what + ") without labels", () -> house.label(0, what));
            }
            Houses.read(house, "^L9,9^E");
            for (int what : new int[] {-1, 4, LEAST, MOST}) {
                CHECK.badArgument("label(0, " + what + ")", () -> house.label(0, what));
                CHECK.badArgument("label(1, " + what + ")", () -> house.label(1, what));
                CHECK.badArgument("label(-1, " + what + ")", () -> house.label(-1, what));
            }
        });
    }

    private static void orders() {
        CHECK.test("promise 10: what 0 to 8 of the first and the last order", () -> {
            LabelHouse house = new LabelHouse();
            Houses.read(house, "^L9,9^H1,1^O-3,4^R^D1,2,3,1^T^Xab^;^F^;^Xabc^Q4,3,2,1^;^E");
            int[] first = {0, -2, 5, 1, 2, 1, 2, 3, 2};
            int[] last = {3, 1, 1, 1, 0, 4, 3, 2, 3};
            for (int what = 0; what < 9; what++) {
                CHECK.due("order(0, " + what + ")", house.order(0, what), first[what]);
                CHECK.due("order(2, " + what + ")", house.order(2, what), last[what]);
            }
        });
        CHECK.test("promise 10: data of 1 and of 200 bytes, and none of a frame", () -> {
            LabelHouse house = new LabelHouse();
            Houses.read(house, "^L9,9^T^Xa^;^T^X" + "b".repeat(200) + "^;^Xc^F^;^E");
            CHECK.due("order(0, 8)", house.order(0, 8), 1);
            CHECK.due("order(1, 8)", house.order(1, 8), 200);
            CHECK.due("order(2, 8)", house.order(2, 8), 0);
        });
        CHECK.test("promise 10: orders of all labels have their numbers one behind the other", () -> {
            LabelHouse house = new LabelHouse();
            Houses.read(house, "^L9,9^F1^;^F2^;^C2^E^L9,9^E^L9,9^F3^;^E");
            int[] due = {1, 2, 1, 2, 3};
            for (int k = 0; k < 5; k++) {
                CHECK.due("order(" + k + ", 5)", house.order(k, 5), due[k]);
            }
        });
        CHECK.test("promise 10: refused, another what, before an order that there is not", () -> {
            LabelHouse house = new LabelHouse();
            Houses.read(house, "^L9,9^F^;^E");
            for (int what : new int[] {-1, 9, LEAST, MOST}) {
                for (int k : new int[] {0, 1, -1, LEAST, MOST}) {
                    CHECK.badArgument("order(" + k + ", " + what + ")", () -> house.order(k, what));
                }
            }
        });
        CHECK.test("promise 10: refused, an order that there is not", () -> {
            LabelHouse house = new LabelHouse();
            CHECK.outOfBounds("order(0, 0) of a new object", () -> house.order(0, 0));
            Houses.read(house, "^L9,9^F^;^F^;^E");
            for (int k : new int[] {2, -1, LEAST, MOST}) {
                for (int w = 0; w < 9; w++) {
                    int what = w;
                    CHECK.outOfBounds("order(" + k + ", " + what + ")", () -> house.order(k, what));
                }
            }
        });
    }

    private static void data() {
        CHECK.test("promise 11: eight bytes from byte i on, the first one as the lowest", () -> {
            LabelHouse house = new LabelHouse();
            Houses.read(house, "^L9,9^T^X_01_02_03_04_05_06_07_08_FF^;^E");
            CHECK.due("data(0, 0)", house.data(0, 0), 0x0807_0605_0403_0201L);
            CHECK.due("data(0, 1)", house.data(0, 1), 0xFF08_0706_0504_0302L);
        });
        CHECK.test("promise 11: 0 for each byte behind the last one", () -> {
            LabelHouse house = new LabelHouse();
            Houses.read(house, "^L9,9^T^X_01_02_03_04_05_06_07_08_FF^;^T^Xx^;^E");
            CHECK.due("data(0, 2)", house.data(0, 2), 0xFF_0807_0605_0403L);
            CHECK.due("data(0, 8)", house.data(0, 8), 255);
            CHECK.due("data(0, 9)", house.data(0, 9), 0);
        });
        CHECK.test("promise 11: 0 for each byte before the first one", () -> {
            LabelHouse house = new LabelHouse();
            Houses.read(house, "^L9,9^T^Xx^;^T^X_01_02_03_04_05_06_07_08^;^E");
            CHECK.due("data(1, -1)", house.data(1, -1), 0x0706_0504_0302_0100L);
            CHECK.due("data(1, -7)", house.data(1, -7), 0x0100_0000_0000_0000L);
            CHECK.due("data(1, -8)", house.data(1, -8), 0);
        });
        CHECK.test("promise 11: i may be any number, and none comes round", () -> {
            LabelHouse house = new LabelHouse();
            Houses.read(house, "^L9,9^T^X" + "a".repeat(200) + "^;^E");
            for (int i : new int[] {LEAST, LEAST + 1, -9, 200, 1000, MOST - 8, MOST - 7, MOST - 1, MOST}) {
                CHECK.due("data(0, " + i + ")", house.data(0, i), 0);
            }
            CHECK.due("data(0, 199)", house.data(0, 199), 'a');
            CHECK.due("data(0, 193)", house.data(0, 193), 0x61_6161_6161_6161L);
        });
        CHECK.test("promise 11: an order without data, and an empty line, have 0 everywhere", () -> {
            LabelHouse house = new LabelHouse();
            Houses.read(house, "^L9,9^Xabc^F^;^W5^X_0Aab^;^E");
            CHECK.due("data(0, 0)", house.data(0, 0), 0);
            CHECK.due("data(1, 0)", house.data(1, 0), 0);
            CHECK.due("data(2, 0)", house.data(2, 0), 0x6261);
            CHECK.due("data(2, -8)", house.data(2, -8), 0);
        });
        CHECK.test("promise 11: refused, an order that there is not, for each i", () -> {
            LabelHouse house = new LabelHouse();
            CHECK.outOfBounds("data(0, 0) of a new object", () -> house.data(0, 0));
            Houses.read(house, "^L9,9^T^Xa^;^E");
            for (int k : new int[] {1, -1, LEAST, MOST}) {
                for (int i : new int[] {0, LEAST, MOST}) {
                    CHECK.outOfBounds("data(" + k + ", " + i + ")", () -> house.data(k, i));
                }
            }
        });
    }

    private static void drawn() {
        CHECK.test("promise 13: dots on the sheet, from none to all, also of a figure that is turned over", () -> {
            LabelHouse house = Houses.printed("^L10,8^F10,8,4^;^R^F10,8,4^;^O10,8^F9,9^;^O9,7^F9,9,9^;^O-1,-1^F^;^E");
            int[] due = {80, 80, 0, 1, 0};
            for (int i = 0; i < due.length; i++) {
                CHECK.due("drawn(" + i + ")", house.drawn(i), due[i]);
            }
        });
        CHECK.test("promise 13: NONE of an order that was not drawn; one without a dot was", () -> {
            LabelHouse house = Houses.printed("^L10,8^B^X_81^;^T^Xa^;^B^X" + "a".repeat(65) + "^;^F^;^E");
            CHECK.due("drawn(0)", house.drawn(0), NONE);
            CHECK.due("drawn(1)", house.drawn(1), 0);
            CHECK.due("drawn(2)", house.drawn(2), NONE);
            CHECK.due("drawn(3)", house.drawn(3), 1);
        });
        CHECK.test("promise 13: NONE when there is no order i, or none was drawn", () -> {
            LabelHouse house = new LabelHouse();
            CHECK.due("drawn(0) of a new object", house.drawn(0), NONE);
            Houses.read(house, "^L9,9^F^;^F^;^E^L9,9^E");
            CHECK.due("drawn(0) before print()", house.drawn(0), NONE);
            house.print(0);
            for (int i : new int[] {-1, 2, LEAST, MOST}) {
                CHECK.due("drawn(" + i + ")", house.drawn(i), NONE);
            }
            house.print(1);
            CHECK.due("drawn(0) of a label without orders", house.drawn(0), NONE);
        });
        CHECK.test("promise 13: i counts from the label's first order", () -> {
            LabelHouse house = new LabelHouse();
            Houses.read(house, "^L9,9^F9^;^F8^;^E^L9,9^F7^;^E");
            house.print(1);
            CHECK.due("drawn(0)", house.drawn(0), 7);
            CHECK.due("drawn(1)", house.drawn(1), NONE);
        });
        CHECK.test("promise 13: it is told until the next print(), whatever is read, turned or spoiled", () -> {
            LabelHouse house = Houses.printed("^L9,9^F5^;^F4^;^E");
            Houses.read(house, "^L9,9^F3^;^E");
            CHECK.due("drawn(1) behind read()", house.drawn(1), 4);
            Houses.read(house, "^Y");
            CHECK.due("drawn(1) behind a fault", house.drawn(1), 4);
            house.turn(1);
            house.spoil(0, 0, -1);
            house.font(0, 1, 1, 1);
            house.scan(1, 1, 0);
            CHECK.outOfBounds("print(0)", () -> house.print(0));
            CHECK.due("drawn(0)", house.drawn(0), 5);
            CHECK.due("drawn(1)", house.drawn(1), 4);
            Houses.read(house, "^L9,9^F3^;^E");
            house.print(0);
            CHECK.due("drawn(0) behind print()", house.drawn(0), 3);
            CHECK.due("drawn(1) behind print()", house.drawn(1), NONE);
        });
    }
}
