/** Promise 12 and the sheet's figures, sentence by sentence: each figure at its least and largest, and at the sheet's edges. */
public final class EdgeFigureTest {
    private static final Check CHECK = new Check();

    public static void main(String[] args) {
        print();
        ways();
        frames();
        lines();
        ellipses();
        texts();
        bars();
        squares();
        pictures();
        CHECK.exit();
    }

    /** Draws one field on a sheet and compares all dots with a figure. */
    private static void due(LabelHouse house, String field, int w, int h, Figures.Figure figure) {
        Houses.read(house, "^L" + w + "," + h + field + "^;^E");
        CHECK.due("print(0) of " + field, house.print(0), 1);
        int dots = 0;
        StringBuilder want = new StringBuilder();
        for (int y = 0; y < h; y++) {
            want.append(y == 0 ? "" : " ");
            for (int x = 0; x < w; x++) {
                dots += figure.has(x, y) ? 1 : 0;
                want.append(figure.has(x, y) ? '#' : '.');
            }
        }
        CHECK.due(field, Houses.sheet(house), want.toString());
        CHECK.due("drawn(0) of " + field, house.drawn(0), dots);
    }

    private static String drawn(String text) {
        return Houses.sheet(Houses.printed(text));
    }

    private static void print() {
        CHECK.test("promise 12: a sheet of 1 times 1, of 512 times 1, 1 times 512 and 512 times 512 dots", () -> {
            for (int[] size : new int[][] {{1, 1}, {512, 1}, {1, 512}, {512, 512}, {511, 65}, {64, 64}, {65, 63}}) {
                LabelHouse house = Houses.printed("^L" + size[0] + "," + size[1] + "^F2048,2048,200^;^O511,511^F^;^E");
                CHECK.due("told(0)", house.told(0), size[0]);
                CHECK.due("told(1)", house.told(1), size[1]);
                CHECK.due("told(4)", house.told(4), size[0] - 1);
                CHECK.due("told(5)", house.told(5), size[1] - 1);
            }
        });
        CHECK.test("promise 12: the sheet is new and light, and has the label's size, also a smaller one", () -> {
            LabelHouse house = new LabelHouse();
            house.spoil(0, 0, -1);
            Houses.read(house, "^L512,512^F512,512,200^;^F2048,2048,200^;^E^L5,4^F^;^E^L512,512^E");
            house.print(0);
            house.print(1);
            CHECK.due("the small sheet", Houses.sheet(house), "#.... ..... ..... .....");
            house.print(2);
            CHECK.due("told(0)", house.told(0), 512);
            CHECK.due("told(6)", house.told(6), 0);
        });
        CHECK.test("promise 12: it answers how many orders were drawn, from 0 on", () -> {
            LabelHouse house = new LabelHouse();
            Houses.read(house, "^L9,9^E^L9,9^B^X_81^;^E^L9,9^B^X_80^;^B^X_81^;^F^;^O99^F^;^E");
            CHECK.due("without orders", house.print(0), 0);
            CHECK.due("with one that is not drawn", house.print(1), 0);
            CHECK.due("with three that are drawn", house.print(2), 3);
        });
        CHECK.test("promise 12: nothing is found then", () -> {
            LabelHouse house = Houses.printed("^L40,40^Q1^Xa^;^E");
            CHECK.due("scan(1, 1, 0)", house.scan(1, 1, 0), 1);
            house.print(0);
            CHECK.due("found(0, 0)", house.found(0, 0), -1);
            CHECK.outOfBounds("decode(0)", () -> house.decode(0));
        });
        CHECK.test("promise 12: what was read last stays", () -> {
            LabelHouse house = Houses.printed("^L40,40^Q1^Xa^;^E");
            house.scan(1, 1, 0);
            house.decode(0);
            house.print(0);
            CHECK.due("reading(0)", house.reading(0), 0);
            CHECK.due("got(0)", house.got(0), 'a');
        });
        CHECK.test("promise 12: the copies of a label are drawn with their own data", () -> {
            LabelHouse house = new LabelHouse();
            house.cell(0, '8', 0, 0x80);
            house.cell(0, '9', 0, 0x40);
            house.cell(0, '0', 0, 0x20);
            Houses.read(house, "^L3,1^C3^T^X8^#1^;^E");
            String[] due = {"#..", ".#.", "..#"};
            for (int k = 0; k < 3; k++) {
                house.print(k);
                CHECK.due("copy " + k, Houses.sheet(house), due[k]);
            }
        });
        CHECK.test("promise 12: refused, a label that there is not, and sheet, found and drawn stay", () -> {
            LabelHouse house = Houses.printed("^L40,40^Q1^Xa^;^E");
            house.scan(1, 1, 0);
            String sheet = Houses.sheet(house);
            int dots = house.drawn(0);
            for (int k : new int[] {1, -1, Integer.MIN_VALUE, Integer.MAX_VALUE}) {
                CHECK.outOfBounds("print(" + k + ")", () -> house.print(k));
            }
            CHECK.due("the sheet", Houses.sheet(house), sheet);
            CHECK.due("found(0, 3)", house.found(0, 3), 1);
            CHECK.due("drawn(0)", house.drawn(0), dots);
            CHECK.outOfBounds("print(0) of a new object", () -> new LabelHouse().print(0));
        });
    }

    private static void ways() {
        CHECK.test("terms: way 0 makes dots dark, again and again; way 2 makes them the other of both", () -> {
            CHECK.due("0, 0", drawn("^L4,1^F3^;^F2^;^E"), "###.");
            CHECK.due("0, 2", drawn("^L4,1^F3^;^R^F2^;^E"), "..#.");
            CHECK.due("2, 2", drawn("^L4,1^R^F3^;^R^F2^;^E"), "..#.");
            CHECK.due("2, 0", drawn("^L4,1^R^F3^;^F4^;^E"), "####");
        });
        CHECK.test("terms: each dot of a figure is drawn once, also where it is turned over", () -> {
            String[] figures = {"^F7,6,2", "^F7,6,3", "^F7,6,9", "^F1,9,1", "^I7,6,2", "^I7,6,9", "^G6,5,3", "^G-1,4,4", "^G,,5",
                "^P9^Xff80ff80", "^B1,3^X1", "^Q1^Xa", "^N1,2^X123456789012"};
            for (String figure : figures) {
                LabelHouse plain = Houses.printed("^L30,30^O3,3" + figure + "^;^E");
                LabelHouse over = Houses.printed("^L30,30^O3,3^R" + figure + "^;^E");
                CHECK.due("once, " + figure, Houses.sheet(over), Houses.sheet(plain));
                CHECK.due("drawn(0)", over.drawn(0), over.told(6));
                LabelHouse twice = Houses.printed("^L30,30^O3,3" + figure + "^;^O3,3^R" + figure + "^;^E");
                CHECK.due("and back, " + figure, twice.told(6), 0);
            }
        });
        CHECK.test("terms: orders are drawn one after the other", () ->
            CHECK.due("over, then dark", drawn("^L3,1^F2^;^R^F3^;^F1^;^E"), "#.#"));
    }

    private static boolean in(int value, int from, int to) {
        return value >= from && value <= to;
    }

    private static void frames() {
        CHECK.test("frames: all w, h up to 7 with t up to 4, filled from half of the lesser one on", () -> {
            LabelHouse house = new LabelHouse();
            for (int w = 1; w <= 7; w++) {
                for (int h = 1; h <= 7; h++) {
                    for (int t = 1; t <= 4; t++) {
                        frame(house, 1, 1, w, h, t);
                    }
                }
            }
        });
        CHECK.test("frames: over each edge of the sheet, and wholly off it", () -> {
            LabelHouse house = new LabelHouse();
            for (int x : new int[] {-9, -8, -7, -3, 0, 3, 6, 9, 10, 11}) {
                for (int y : new int[] {-7, -6, -5, 0, 5, 8, 9, 10}) {
                    frame(house, x, y, 8, 6, 2);
                }
            }
        });
        CHECK.test("frames: the largest, and t of 200", () -> {
            LabelHouse house = new LabelHouse();
            frame(house, -1024, -1024, 2048, 2048, 1);
            frame(house, -199, -199, 2048, 2048, 200);
            frame(house, -200, -200, 2048, 2048, 200);
            frame(house, -195, -195, 400, 400, 200);
            frame(house, -195, -195, 401, 401, 200);
            frame(house, -2047, 3, 2048, 1, 1);
            frame(house, -2048, 3, 2048, 1, 1);
        });
    }

    private static void frame(LabelHouse house, int x, int y, int w, int h, int t) {
        due(house, "^O" + x + "," + y + "^F" + w + "," + h + "," + t, 10, 9, Figures.frame(x, y, w, h, t));
    }

    private static void line(LabelHouse house, int x, int y, int dx, int dy, int t) {
        due(house, "^O" + x + "," + y + "^G" + dx + "," + dy + "," + t, 12, 11, Figures.line(x, y, dx, dy, t));
    }

    private static void lines() {
        CHECK.test("lines: of no length, a dot for t = 1, and no farther than half of t", () -> {
            CHECK.due("t 1", drawn("^L5,5^O2,2^G,,1^;^E"), "..... ..... ..#.. ..... .....");
            CHECK.due("t 2", drawn("^L5,5^O2,2^G,,2^;^E"), "..... ..#.. .###. ..#.. .....");
            CHECK.due("t 3", drawn("^L5,5^O2,2^G,,3^;^E"), "..... .###. .###. .###. .....");
            CHECK.due("t 4", drawn("^L5,5^O2,2^G,,4^;^E"), "..#.. .###. ##### .###. ..#..");
            // (3, 4) is 5 away, so it is one of t 10 and none of t 9
            CHECK.isTrue("t 10", Houses.dark(Houses.printed("^L9,9^G,,10^;^E"), 3, 4));
            CHECK.isTrue("t 9", !Houses.dark(Houses.printed("^L9,9^G,,9^;^E"), 3, 4));
        });
        CHECK.test("lines: all x, y from -4 to 4 with t up to 5", () -> {
            LabelHouse house = new LabelHouse();
            for (int dx = -4; dx <= 4; dx++) {
                for (int dy = -4; dy <= 4; dy++) {
                    for (int t = 1; t <= 5; t++) {
                        line(house, 5, 5, dx, dy, t);
                    }
                }
            }
        });
        CHECK.test("lines: level and upright ones, over each edge of the sheet", () -> {
            LabelHouse house = new LabelHouse();
            for (int at : new int[] {-3, -2, -1, 0, 5, 10, 11, 12, 13, 14}) {
                line(house, at, -5, 0, 30, 3);
                line(house, -5, at, 30, 0, 3);
                line(house, at, at, 3, -2, 4);
            }
        });
        CHECK.test("lines: the longest, from one end of what is allowed to the other, and t of 200", () -> {
            LabelHouse house = new LabelHouse();
            line(house, -2048, -2040, 4096, 4090, 1);
            line(house, 2048, -2040, -4096, 4090, 2);
            line(house, -2040, 2048, 4090, -4096, 3);
            line(house, 4096, 4096, -4096, -4096, 1);
            line(house, -4096, -4096, 4096, 4096, 1);
            line(house, -4096, 5, 4096, 0, 1);
            line(house, 5, 4096, 0, -4096, 1);
            line(house, 105, 5, 0, 0, 200);
            line(house, 106, 5, 0, 0, 200);
            line(house, -100, -1, 3, 0, 200);
            line(house, 4096, 3, -4096, 2, 200);
        });
    }

    private static void ellipse(LabelHouse house, int x, int y, int w, int h, int t) {
        due(house, "^O" + x + "," + y + "^I" + w + "," + h + "," + t, 12, 11, Figures.ellipse(x, y, w, h, t));
    }

    private static void ellipses() {
        CHECK.test("ellipses: one dot, a row and a column", () -> {
            CHECK.due("1 times 1", drawn("^L3,3^O1,1^I1,1,1^;^E"), "... .#. ...");
            CHECK.due("3 times 1", drawn("^L3,3^O0,1^I3,1,1^;^E"), "... ### ...");
            CHECK.due("1 times 3", drawn("^L3,3^O1,0^I1,3,1^;^E"), ".#. .#. .#.");
        });
        CHECK.test("ellipses: all w, h up to 9 with t up to 5; the hole is where both w - 2 t and h - 2 t are above 0", () -> {
            LabelHouse house = new LabelHouse();
            for (int w = 1; w <= 9; w++) {
                for (int h = 1; h <= 9; h++) {
                    for (int t = 1; t <= 5; t++) {
                        ellipse(house, 1, 1, w, h, t);
                    }
                }
            }
        });
        CHECK.test("ellipses: rows with and without a part of the hole, of even and of odd sizes", () -> {
            LabelHouse house = new LabelHouse();
            ellipse(house, 0, 0, 10, 10, 1);
            ellipse(house, 0, 0, 10, 10, 2);
            ellipse(house, 0, 0, 11, 10, 3);
            ellipse(house, -20, -20, 50, 50, 12);
            ellipse(house, -12, -12, 26, 26, 4);
        });
        CHECK.test("ellipses: over each edge of the sheet, and wholly off it", () -> {
            LabelHouse house = new LabelHouse();
            for (int x : new int[] {-8, -7, -6, 0, 5, 11, 12}) {
                for (int y : new int[] {-6, -5, -4, 0, 6, 10, 11}) {
                    ellipse(house, x, y, 7, 5, 1);
                }
            }
        });
        CHECK.test("ellipses: the largest, and t of 200", () -> {
            LabelHouse house = new LabelHouse();
            ellipse(house, -1024, 0, 2048, 2048, 1);
            ellipse(house, 0, -1024, 2048, 2048, 200);
            ellipse(house, -300, -300, 2048, 2047, 200);
            ellipse(house, -195, -195, 400, 400, 200);
            ellipse(house, -195, -195, 401, 401, 200);
            ellipse(house, -195, -195, 402, 401, 200);
            ellipse(house, -2040, 3, 2048, 1, 1);
            ellipse(house, 3, -2040, 1, 2048, 1);
        });
    }

    private static LabelHouse withFont() {
        LabelHouse house = new LabelHouse();
        house.font(0, 3, 2, 1);
        house.cell(0, 'A', 0, 0b110);
        house.cell(0, 'A', 1, 0b001);
        return house;
    }

    private static void text(LabelHouse house, int x, int y, int p, int q, int r) {
        int[][] steps = {{0, 0}, {1, 0}, {2, 1}, {8, 0}, {9, 0}, {10, 1}};
        due(house, "^O" + x + "," + y + "^XA A^T0," + p + "," + q + "," + r, 30, 28, (px, py) -> {
            int dx = px - x;
            int dy = py - y;
            int i = r == 0 ? dx : r == 1 ? dy : r == 2 ? -dx : -dy;
            int j = r == 0 ? dy : r == 1 ? -dx : r == 2 ? -dy : dx;
            for (int[] step : steps) {
                if (in(i, p * step[0], p * step[0] + p - 1) && in(j, q * step[1], q * step[1] + q - 1)) {
                    return true;
                }
            }
            return false;
        });
    }

    private static void texts() {
        CHECK.test("texts: scales 1 and 10 of both kinds, at each quarter, over the edges of the sheet", () -> {
            LabelHouse house = withFont();
            for (int r = 0; r < 4; r++) {
                for (int[] scale : new int[][] {{1, 1}, {2, 3}, {10, 1}, {1, 10}, {10, 10}}) {
                    text(house, 15, 14, scale[0], scale[1], r);
                    text(house, 0, 0, scale[0], scale[1], r);
                    text(house, 29, 27, scale[0], scale[1], r);
                }
            }
        });
        CHECK.test("texts: wholly off the sheet, at the ends of what is allowed", () -> {
            LabelHouse house = withFont();
            for (int r = 0; r < 4; r++) {
                text(house, 4096, 4096, 10, 10, r);
                text(house, -4096, -4096, 10, 10, r);
            }
        });
        CHECK.test("texts: 200 bytes are drawn, each in its cell, with the gap behind it", () -> {
            LabelHouse house = new LabelHouse();
            house.font(1, 1, 1, 1);
            house.cell(1, 0, 0, 1);
            house.cell(1, 255, 0, 1);
            Houses.read(house, "^L512,1^T1^X" + "_00".repeat(100) + "_FF".repeat(100) + "^;^E");
            house.print(0);
            CHECK.due("drawn(0)", house.drawn(0), 200);
            CHECK.due("the row", Houses.row(house, 0), "#.".repeat(200) + ".".repeat(112));
        });
        CHECK.test("texts: an empty line is drawn, without a dot", () -> {
            LabelHouse house = Houses.printed("^L9,9^W5^X_0Aa^;^E");
            CHECK.due("drawn(0)", house.drawn(0), 0);
            CHECK.due("drawn(1)", house.drawn(1), 0);
        });
        CHECK.test("texts: the cells count as they are when the label is drawn", () -> {
            LabelHouse house = withFont();
            Houses.read(house, "^L4,2^T^XA^;^E");
            house.print(0);
            CHECK.due("before", Houses.sheet(house), "##.. ..#.");
            house.cell(0, 'A', 0, 0b010);
            house.print(0);
            CHECK.due("then", Houses.sheet(house), ".#.. ..#.");
        });
    }

    private static void bars() {
        CHECK.test("bars: h from 1 to 2048, at each quarter", () -> {
            for (int h : new int[] {1, 2, 400, 2048}) {
                for (int r = 0; r < 4; r++) {
                    LabelHouse house = Houses.printed("^L512,512^O256,256^B1," + h + "," + r + "^X1^;^E");
                    boolean upright = r % 2 == 0;
                    // the first bar is two modules wide
                    int least = Math.max(0, r == 0 || r == 3 ? 256 : 256 - h + 1);
                    int most = Math.min(511, r == 0 || r == 3 ? 256 + h - 1 : 256);
                    CHECK.due("first", house.told(upright ? 3 : 2), least);
                    CHECK.due("last", house.told(upright ? 5 : 4), most);
                    int begin = r < 2 ? house.told(upright ? 2 : 3) : house.told(upright ? 4 : 5);
                    CHECK.due("where it begins", begin, 256);
                }
            }
        });
        CHECK.test("bars: m of 1 and 50, and off the sheet", () -> {
            LabelHouse wide = Houses.printed("^L512,3^B50,3^X1^;^E");
            CHECK.due("the first bar", wide.run(0, 0, 0, false), 100);
            CHECK.due("the first space", wide.run(0, 0, 1, false), 50);
            LabelHouse narrow = Houses.printed("^L512,3^B1,3^X1^;^E");
            CHECK.due("the first bar", narrow.run(0, 0, 0, false), 2);
            LabelHouse off = Houses.printed("^L512,3^O512^B1,3^X1^;^O4096,4096^B50,2048^X1^;^O-4096^B1^X1^;^E");
            CHECK.due("told(6)", off.told(6), 0);
            CHECK.due("drawn(1)", off.drawn(1), 0);
        });
        CHECK.test("bars: not drawn with more than 64 bytes", () -> {
            LabelHouse house = Houses.printed("^L512,3^B1,3^X" + "a".repeat(64) + "^;^B1,3^X" + "a".repeat(65) + "^;^B1,3^X"
                + "a".repeat(200) + "^;^E");
            CHECK.isTrue("64", house.drawn(0) > 0);
            CHECK.due("65", house.drawn(1), -1);
            CHECK.due("200", house.drawn(2), -1);
        });
        CHECK.test("bars: not drawn with a byte above 128, wherever it stands", () -> {
            LabelHouse house = Houses.printed("^L512,3^B1,3^X_80^;^B1,3^X_81^;^B1,3^X_FF^;^B1,3^Xa_81^;^B1,3^X_81a^;^B1,3^X_00_7F_80^;"
                + "^B1,3^X" + "a".repeat(63) + "_81^;^E");
            boolean[] due = {true, false, false, false, false, true, false};
            for (int i = 0; i < due.length; i++) {
                CHECK.due("drawn(" + i + ")", house.drawn(i) > 0 ? 1 : house.drawn(i), due[i] ? 1 : -1);
            }
        });
        CHECK.test("bars: an order that is not drawn leaves the sheet, and the others are drawn", () -> {
            LabelHouse house = new LabelHouse();
            Houses.read(house, "^L9,9^F^;^B1,3^X_81^;^O2^F^;^E");
            CHECK.due("print(0)", house.print(0), 2);
            CHECK.due("told(6)", house.told(6), 2);
        });
        CHECK.test("bars: the text of bars is drawn, also when they are not", () -> {
            LabelHouse house = new LabelHouse();
            house.cell(0, 0x81, 0, 255);
            Houses.read(house, "^L9,9^B1,3,0,1^X_81^;^E");
            CHECK.due("print(0)", house.print(0), 1);
            CHECK.due("drawn(0)", house.drawn(0), -1);
            CHECK.due("drawn(1)", house.drawn(1), 8);
        });
    }

    private static void squares() {
        CHECK.test("squares: m of 1 and 50, and off the sheet", () -> {
            LabelHouse one = Houses.printed("^L512,512^Q1,0,0^Xa^;^E");
            CHECK.due("told(4)", one.told(4), 20);
            CHECK.due("told(5)", one.told(5), 20);
            CHECK.due("the first row", one.run(0, 0, 0, false), 7);
            LabelHouse large = Houses.printed("^L512,512^Q50,0,0^Xa^;^E");
            CHECK.due("the first row", large.run(0, 0, 0, false), 350);
            CHECK.due("the next", large.run(0, 0, 1, false), 50 * one.run(0, 0, 1, false));
            LabelHouse off = Houses.printed("^L512,512^O512^Q50^Xa^;^O,4096^Q1^Xa^;^E");
            CHECK.due("told(6)", off.told(6), 0);
            CHECK.due("drawn(1)", off.drawn(1), 0);
        });
        CHECK.test("squares: each quarter is the sheet turned", () -> {
            LabelHouse plain = Houses.printed("^L63,63^O21,21^Q1,0,0^Xa^;^E");
            String[] quarters = {"^O21,21^Q1,0,0,0", "^O41,21^Q1,0,0,1", "^O41,41^Q1,0,0,2", "^O21,41^Q1,0,0,3"};
            for (int r = 0; r < 4; r++) {
                LabelHouse house = Houses.printed("^L63,63" + quarters[r] + "^Xa^;^E");
                CHECK.due("quarter " + r, Houses.sheet(house), Houses.sheet(plain));
                plain.turn(1);
            }
        });
    }

    private static void pictures() {
        CHECK.test("pictures: w from 1 on; the bits from w on are left out", () -> {
            LabelHouse house = new LabelHouse();
            for (int w = 1; w <= 17; w++) {
                int width = w;
                int bytes = (w + 7) / 8;
                due(house, "^O2,1^P" + w + "^X" + "ff".repeat(2 * bytes), 20, 4, (px, py) -> in(px, 2, 1 + width) && in(py, 1, 2));
            }
        });
        CHECK.test("pictures: the highest bit of a row's first byte is its first dot", () -> {
            CHECK.due("8 wide", drawn("^L8,2^P8^X8001^;^E"), "#....... .......#");
            CHECK.due("9 wide", drawn("^L9,2^P9^X80008080^;^E"), "#........ #.......#");
            CHECK.due("17 wide", drawn("^L17,1^P17^X018180^;^E"), ".......##......##");
        });
        CHECK.test("pictures: of 100 bytes, 800 wide, over the sheet's edge", () -> {
            LabelHouse house = Houses.printed("^L512,2^O-290^P800^X" + "0".repeat(198) + "01^;^E");
            CHECK.due("the last dot", house.told(2), 509);
            CHECK.due("drawn(0)", house.drawn(0), 1);
            LabelHouse high = Houses.printed("^L8,100^P1^X" + "80".repeat(100) + "^;^E");
            CHECK.due("100 rows", high.run(0, 0, 0, true), 100);
            CHECK.due("one column", high.told(6), 100);
        });
        CHECK.test("pictures: over each edge of the sheet, and wholly off it", () -> {
            CHECK.due("left and above", drawn("^L3,2^O-5,-1^P^Xffa5ff^;^E"), "#.# ###");
            CHECK.due("right and below", drawn("^L3,2^O1,1^P^Xa5ff^;^E"), "... .#.");
            LabelHouse off = Houses.printed("^L3,2^O3^P^Xff^;^O,2^P^Xff^;^O-8^P^Xff^;^O,-1^P^Xff^;^E");
            CHECK.due("told(6)", off.told(6), 0);
            CHECK.due("drawn(3)", off.drawn(3), 0);
        });
    }
}
