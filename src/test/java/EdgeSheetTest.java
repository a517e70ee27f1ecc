/** Promises 14 to 18, sentence by sentence: spoil, turn, told, dots and run at the sheet's edges and beyond. */
public final class EdgeSheetTest {
    private static final Check CHECK = new Check();
    private static final int NONE = LabelHouse.NONE;
    private static final int LEAST = Integer.MIN_VALUE;
    private static final int MOST = Integer.MAX_VALUE;

    public static void main(String[] args) {
        spoil();
        turn();
        told();
        dots();
        run();
        CHECK.exit();
    }

    private static LabelHouse light(int w, int h) {
        return Houses.printed("^L" + w + "," + h + "^E");
    }

    private static LabelHouse dark(int w, int h) {
        return Houses.printed("^L" + w + "," + h + "^F" + w + "," + h + ",200^;^O150,150^F512,512,200^;^E");
    }

    private static void spoil() {
        CHECK.test("promise 14: dots become the other of light and dark, for bits that are 1 alone", () -> {
            LabelHouse house = light(70, 2);
            CHECK.due("spoil(0, 0, 5)", house.spoil(0, 0, 5), 2);
            CHECK.due("dots(0, 0)", house.dots(0, 0), 5);
            CHECK.due("spoil(0, 0, 6)", house.spoil(0, 0, 6), 2);
            CHECK.due("dots(0, 0)", house.dots(0, 0), 3);
            CHECK.due("dots(0, 1)", house.dots(0, 1), 0);
        });
        CHECK.test("promise 14: no bit, all bits, the lowest and the highest", () -> {
            LabelHouse house = light(70, 2);
            CHECK.due("spoil(0, 0, 0)", house.spoil(0, 0, 0), 0);
            CHECK.due("spoil(0, 0, -1)", house.spoil(0, 0, -1), 64);
            CHECK.due("dots(0, 0)", house.dots(0, 0), -1);
            CHECK.due("dots(64, 0)", house.dots(64, 0), 0);
            CHECK.due("spoil(0, 1, highest)", house.spoil(0, 1, Long.MIN_VALUE), 1);
            CHECK.due("dots(63, 1)", house.dots(63, 1), 1);
            CHECK.due("spoil(6, 1, highest)", house.spoil(6, 1, Long.MIN_VALUE), 1);
            CHECK.due("dots(69, 1)", house.dots(69, 1), 1);
            CHECK.due("spoil(7, 1, highest)", house.spoil(7, 1, Long.MIN_VALUE), 0);
        });
        CHECK.test("promise 14: over the right edge of sheets of all kinds of widths", () -> {
            for (int w : new int[] {1, 2, 63, 64, 65, 127, 128, 129, 511, 512}) {
                LabelHouse house = light(w, 1);
                CHECK.due("spoil(" + (w - 1) + ", 0, -1)", house.spoil(w - 1, 0, -1), 1);
                CHECK.due("told(6)", house.told(6), 1);
                CHECK.due("told(4)", house.told(4), w - 1);
                CHECK.due("spoil(" + w + ", 0, -1)", house.spoil(w, 0, -1), 0);
                CHECK.due("told(6)", house.told(6), 1);
            }
        });
        CHECK.test("promise 14: over the left edge", () -> {
            LabelHouse house = light(70, 1);
            CHECK.due("spoil(-1, 0, 1)", house.spoil(-1, 0, 1), 0);
            CHECK.due("spoil(-1, 0, 2)", house.spoil(-1, 0, 2), 1);
            CHECK.due("dots(0, 0)", house.dots(0, 0), 1);
            CHECK.due("spoil(-63, 0, -1)", house.spoil(-63, 0, -1), 1);
            CHECK.due("dots(0, 0)", house.dots(0, 0), 0);
            CHECK.due("spoil(-64, 0, -1)", house.spoil(-64, 0, -1), 0);
        });
        CHECK.test("promise 14: above and below the sheet there are no dots", () -> {
            LabelHouse house = light(64, 8);
            for (int y : new int[] {-1, 8, 9, 511, 512, LEAST, MOST}) {
                CHECK.due("spoil(0, " + y + ", -1)", house.spoil(0, y, -1), 0);
            }
            CHECK.due("told(6)", house.told(6), 0);
            CHECK.due("spoil(0, 7, -1)", house.spoil(0, 7, -1), 64);
            CHECK.due("spoil(0, 0, -1)", house.spoil(0, 0, -1), 64);
        });
        CHECK.test("promise 14: x may be any number, and none comes round", () -> {
            LabelHouse house = light(512, 1);
            for (int x : new int[] {LEAST, LEAST + 1, LEAST + 64, -65, 512, 513, MOST, MOST - 1, MOST - 62, MOST - 63, MOST - 64}) {
                CHECK.due("spoil(" + x + ", 0, -1)", house.spoil(x, 0, -1), 0);
            }
            CHECK.due("told(6)", house.told(6), 0);
            LabelHouse high = light(512, 512);
            CHECK.due("spoil(511, 0, -1)", high.spoil(511, 0, -1), 1);
            CHECK.due("spoil(-63, 2, -1)", high.spoil(-63, 2, -1), 1);
            CHECK.due("spoil(0, 512, -1)", high.spoil(0, 512, -1), 0);
            CHECK.due("spoil(511, 511, -1)", high.spoil(511, 511, -1), 1);
            CHECK.due("row 0", high.dots(448, 0), Long.MIN_VALUE);
            CHECK.due("row 1", high.dots(0, 1), 0);
            CHECK.due("the end of row 1", high.dots(448, 1), 0);
            CHECK.due("row 2", high.dots(0, 2), 1);
            CHECK.due("told(6)", high.told(6), 3);
        });
        CHECK.test("promise 14: places that were found stay, and what is read, too", () -> {
            LabelHouse house = Houses.printed("^L30,30^Q1^Xa^;^E");
            house.scan(1, 1, 0);
            house.decode(0);
            house.spoil(0, 0, -1);
            CHECK.due("found(0, 5)", house.found(0, 5), 0);
            CHECK.due("got(0)", house.got(0), 'a');
        });
    }

    private static long turned(LabelHouse house, int quarter) {
        house.turn(quarter);
        return 0;
    }

    private static void turn() {
        CHECK.test("promise 15: with one quarter (px, py) comes to (height - 1 - py, px), with more as often", () -> {
            int w = 67;
            int h = 3;
            for (int quarter = 0; quarter < 4; quarter++) {
                for (int[] dot : new int[][] {{0, 0}, {w - 1, 0}, {0, h - 1}, {w - 1, h - 1}, {63, 1}, {64, 1}}) {
                    LabelHouse house = light(w, h);
                    house.spoil(dot[0], dot[1], 1);
                    house.turn(quarter);
                    int x = dot[0];
                    int y = dot[1];
                    int height = h;
                    int width = w;
                    for (int i = 0; i < quarter; i++) {
                        int oldX = x;
                        x = height - 1 - y;
                        y = oldX;
                        int old = width;
                        width = height;
                        height = old;
                    }
                    CHECK.due("told(0)", house.told(0), width);
                    CHECK.due("told(1)", house.told(1), height);
                    CHECK.due("told(2)", house.told(2), x);
                    CHECK.due("told(3)", house.told(3), y);
                    CHECK.due("told(6)", house.told(6), 1);
                }
            }
        });
        CHECK.test("promise 15: sheets of 1 times 1, 512 times 1 and 512 times 512 dots", () -> {
            for (int[] size : new int[][] {{1, 1}, {512, 1}, {1, 512}, {512, 512}}) {
                for (int quarter = 0; quarter < 4; quarter++) {
                    LabelHouse house = light(size[0], size[1]);
                    house.spoil(size[0] - 1, size[1] - 1, 1);
                    house.turn(quarter);
                    boolean even = quarter % 2 == 0;
                    int width = even ? size[0] : size[1];
                    int height = even ? size[1] : size[0];
                    CHECK.due("told(0)", house.told(0), width);
                    CHECK.due("told(1)", house.told(1), height);
                    CHECK.due("told(2)", house.told(2), quarter == 0 || quarter == 3 ? width - 1 : 0);
                    CHECK.due("told(3)", house.told(3), quarter < 2 ? height - 1 : 0);
                }
            }
        });
        CHECK.test("promise 15: four quarters in all make it as it was, and dots off the old sheet stay light", () -> {
            LabelHouse house = dark(70, 40);
            String sheet = Houses.sheet(house);
            for (int quarter : new int[] {1, 2, 1, 3, 3, 2}) {
                house.turn(quarter);
                CHECK.due("told(6)", house.told(6), 2800);
            }
            CHECK.due("the sheet", Houses.sheet(house), sheet);
        });
        CHECK.test("promise 15: nothing is found then, also with 0", () -> {
            for (int quarter = 0; quarter < 4; quarter++) {
                LabelHouse house = Houses.printed("^L30,30^Q1^Xa^;^E");
                CHECK.due("scan(1, 1, 0)", house.scan(1, 1, 0), 1);
                house.turn(quarter);
                CHECK.due("found(0, 0)", house.found(0, 0), NONE);
                CHECK.outOfBounds("decode(0)", () -> house.decode(0));
            }
        });
        CHECK.test("promise 15: what is read stays, and so do labels", () -> {
            LabelHouse house = Houses.printed("^L30,30^Q1^Xa^;^E");
            house.scan(1, 1, 0);
            house.decode(0);
            house.turn(1);
            CHECK.due("got(0)", house.got(0), 'a');
            CHECK.due("label(0, 0)", house.label(0, 0), 30);
        });
        CHECK.test("promise 15: refused, quarter is not 0 .. 3, and nothing has changed", () -> {
            LabelHouse house = Houses.printed("^L40,30^Q1^Xa^;^E");
            house.scan(1, 1, 0);
            String sheet = Houses.sheet(house);
            for (int quarter : new int[] {-1, 4, 5, LEAST, MOST}) {
                CHECK.badArgument("turn(" + quarter + ")", () -> turned(house, quarter));
            }
            CHECK.due("the sheet", Houses.sheet(house), sheet);
            CHECK.due("found(0, 3)", house.found(0, 3), 1);
        });
    }

    private static void toldAll(LabelHouse house, int... due) {
        for (int what = 0; what < 7; what++) {
            CHECK.due("told(" + what + ")", house.told(what), due[what]);
        }
    }

    private static void told() {
        CHECK.test("promise 16: a light sheet has NONE for the edges and 0 dark dots", () -> {
            toldAll(light(1, 1), 1, 1, NONE, NONE, NONE, NONE, 0);
            toldAll(light(512, 512), 512, 512, NONE, NONE, NONE, NONE, 0);
        });
        CHECK.test("promise 16: a dark sheet, of 1 times 1 and of 512 times 512 dots", () -> {
            toldAll(dark(1, 1), 1, 1, 0, 0, 0, 0, 1);
            LabelHouse house = Houses.printed("^L512,512^F400,400,200^;^O112,112^F400,400,200^;^O112^F400,400,200^;^O,112^F400,400,200^;^E");
            toldAll(house, 512, 512, 0, 0, 511, 511, 512 * 512);
        });
        CHECK.test("promise 16: one dark dot at each corner and at the edges of words", () -> {
            for (int x : new int[] {0, 63, 64, 127, 128, 510, 511}) {
                for (int y : new int[] {0, 1, 510, 511}) {
                    LabelHouse house = light(512, 512);
                    house.spoil(x, y, 1);
                    toldAll(house, 512, 512, x, y, x, y, 1);
                }
            }
        });
        CHECK.test("promise 16: least and greatest x and y are of different dots", () -> {
            LabelHouse house = light(300, 200);
            house.spoil(70, 100, 1);
            house.spoil(150, 3, 1);
            house.spoil(299, 90, 1);
            house.spoil(140, 199, 1);
            toldAll(house, 300, 200, 70, 3, 299, 199, 4);
        });
        CHECK.test("promise 16: refused, another what", () -> {
            LabelHouse house = light(3, 3);
            for (int what : new int[] {-1, 7, LEAST, MOST}) {
                CHECK.badArgument("told(" + what + ")", () -> house.told(what));
            }
        });
    }

    private static void dots() {
        CHECK.test("promise 17: 64 dots from x on, the first one the lowest", () -> {
            LabelHouse house = light(512, 2);
            house.spoil(100, 1, 1);
            for (int x = 36; x <= 102; x++) {
                CHECK.due("dots(" + x + ", 1)", house.dots(x, 1), x < 37 || x > 100 ? 0 : 1L << (100 - x));
            }
        });
        CHECK.test("promise 17: 0 for dots right and left of the sheet, of all kinds of widths", () -> {
            for (int w : new int[] {1, 63, 64, 65, 128, 511, 512}) {
                LabelHouse house = Houses.printed("^L" + w + ",1^F" + w + ",1^;^E");
                CHECK.due("dots(" + (w - 1) + ", 0)", house.dots(w - 1, 0), 1);
                CHECK.due("dots(" + w + ", 0)", house.dots(w, 0), 0);
                CHECK.due("dots(-1, 0)", house.dots(-1, 0), (w >= 63 ? -1L : (1L << w) - 1) << 1);
                CHECK.due("dots(-63, 0)", house.dots(-63, 0), Long.MIN_VALUE);
                CHECK.due("dots(-64, 0)", house.dots(-64, 0), 0);
                CHECK.due("dots(0, 0)", house.dots(0, 0), w >= 64 ? -1L : (1L << w) - 1);
            }
        });
        CHECK.test("promise 17: 0 for rows above and below the sheet", () -> {
            LabelHouse house = Houses.printed("^L64,5^F64,5,3^;^E");
            CHECK.due("dots(0, 0)", house.dots(0, 0), -1);
            CHECK.due("dots(0, 4)", house.dots(0, 4), -1);
            for (int y : new int[] {-1, 5, 511, 512, LEAST, MOST}) {
                CHECK.due("dots(0, " + y + ")", house.dots(0, y), 0);
            }
        });
        CHECK.test("promise 17: rows that a smaller label does not have are not those of a larger one before", () -> {
            LabelHouse house = new LabelHouse();
            Houses.read(house, "^L512,512^F512,512,200^;^E^L3,3^E");
            house.print(0);
            house.print(1);
            CHECK.due("dots(0, 3)", house.dots(0, 3), 0);
            CHECK.due("dots(3, 0)", house.dots(3, 0), 0);
        });
        CHECK.test("promise 17: x may be any number, and none comes round", () -> {
            LabelHouse house = Houses.printed("^L512,1^F512^;^E");
            for (int x : new int[] {LEAST, LEAST + 1, -65, 512, 1024, MOST - 64, MOST - 63, MOST - 62, MOST}) {
                CHECK.due("dots(" + x + ", 0)", house.dots(x, 0), 0);
            }
            // rows above and below are dark, too
            LabelHouse dark = Houses.printed("^L512,512^F512,512,200^;^E");
            for (int y : new int[] {0, 1, 100, 510, 511}) {
                CHECK.due("dots(511, " + y + ")", dark.dots(511, y), 1);
                CHECK.due("dots(510, " + y + ")", dark.dots(510, y), 3);
                CHECK.due("dots(449, " + y + ")", dark.dots(449, y), -1L >>> 1);
                CHECK.due("dots(512, " + y + ")", dark.dots(512, y), 0);
                CHECK.due("dots(-1, " + y + ")", dark.dots(-1, y), -2);
                CHECK.due("dots(-63, " + y + ")", dark.dots(-63, y), Long.MIN_VALUE);
                CHECK.due("dots(-64, " + y + ")", dark.dots(-64, y), 0);
            }
            CHECK.due("dots(0, 512)", dark.dots(0, 512), 0);
            CHECK.due("dots(0, -1)", dark.dots(0, -1), 0);
        });
    }

    private static void run() {
        CHECK.test("promise 18: run 0 is that of the dot itself, from it on to the edge", () -> {
            LabelHouse house = light(20, 10);
            CHECK.due("a light sheet", house.run(0, 0, 0, false), 20);
            CHECK.due("downwards", house.run(0, 0, 0, true), 10);
            CHECK.due("no other", house.run(0, 0, 1, false), NONE);
            CHECK.due("no other downwards", house.run(0, 0, 1, true), NONE);
            CHECK.due("the last dot", house.run(19, 9, 0, false), 1);
            CHECK.due("the last dot downwards", house.run(19, 9, 0, true), 1);
            CHECK.due("within it", house.run(7, 3, 0, false), 13);
            CHECK.due("within it downwards", house.run(7, 3, 0, true), 7);
        });
        CHECK.test("promise 18: runs take turns, whether the dot is light or dark", () -> {
            LabelHouse house = light(10, 1);
            house.spoil(2, 0, 0b10111);
            int[] from0 = {2, 3, 1, 1, 3};
            int[] from3 = {2, 1, 1, 3};
            for (int i = 0; i <= 5; i++) {
                CHECK.due("run(0, 0, " + i + ", false)", house.run(0, 0, i, false), i < 5 ? from0[i] : NONE);
                CHECK.due("run(3, 0, " + i + ", false)", house.run(3, 0, i, false), i < 4 ? from3[i] : NONE);
            }
        });
        CHECK.test("promise 18: 512 runs of one dot, in a row and in a column", () -> {
            LabelHouse house = light(512, 1);
            for (int x = 0; x < 512; x += 64) {
                house.spoil(x, 0, 0x5555_5555_5555_5555L);
            }
            for (int turn = 0; turn < 2; turn++) {
                boolean down = turn == 1;
                CHECK.due("run 0", house.run(0, 0, 0, down), 1);
                CHECK.due("run 511", house.run(0, 0, 511, down), 1);
                CHECK.due("run 512", house.run(0, 0, 512, down), NONE);
                house.turn(1);
            }
        });
        CHECK.test("promise 18: NONE when there is no run i", () -> {
            LabelHouse house = light(10, 10);
            for (int i : new int[] {-1, 1, LEAST, MOST}) {
                CHECK.due("run(0, 0, " + i + ", false)", house.run(0, 0, i, false), NONE);
                CHECK.due("run(0, 0, " + i + ", true)", house.run(0, 0, i, true), NONE);
            }
        });
        CHECK.test("promise 18: refused, (x, y) lies not on the sheet, before it is NONE", () -> {
            LabelHouse house = light(10, 7);
            int[][] off = {{-1, 0}, {10, 0}, {0, -1}, {0, 7}, {7, 9}, {LEAST, 0}, {MOST, 0}, {0, LEAST}, {0, MOST}};
            for (int[] dot : off) {
                for (int i : new int[] {0, -1, 99}) {
                    CHECK.outOfBounds("run(" + dot[0] + ", " + dot[1] + ", " + i + ", false)", () -> house.run(dot[0], dot[1], i, false));
                    CHECK.outOfBounds("run(" + dot[0] + ", " + dot[1] + ", " + i + ", true)", () -> house.run(dot[0], dot[1], i, true));
                }
            }
        });
        CHECK.test("promise 18: of a sheet that was turned its new edges count", () -> {
            LabelHouse house = light(10, 7);
            house.turn(1);
            CHECK.due("run(6, 9, 0, true)", house.run(6, 9, 0, true), 1);
            CHECK.outOfBounds("run(7, 0, 0, true)", () -> house.run(7, 0, 0, true));
        });
    }
}
