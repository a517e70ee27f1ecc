import java.util.ArrayList;
import java.util.Arrays;
import java.util.Collections;
import java.util.List;
import java.util.Random;

/** Places and promises 19 and 20, sentence by sentence: where a symbol can stand, and which place leads. */
public final class EdgePlaceTest {
    private static final Check CHECK = new Check();
    private static final int NONE = LabelHouse.NONE;
    private static final int LEAST = Integer.MIN_VALUE;
    private static final int MOST = Integer.MAX_VALUE;

    public static void main(String[] args) {
        arguments();
        sizes();
        edges();
        marks();
        limits();
        manyPlaces();
        leaders();
        ties();
        everywhere();
        found();
        CHECK.exit();
    }

    private static LabelHouse light(int w, int h) {
        return Houses.printed("^L" + w + "," + h + "^E");
    }

    /** scan() and found() against what is due for the sheet as it is. */
    private static void due(String what, LabelHouse house, int least, int most, int limit) {
        CHECK.due(what, Places.told(house, least, most, limit), Places.due(Places.sheet(house), least, most, limit));
    }

    private static void arguments() {
        CHECK.test("promise 19: least 1 .. 16, most least .. 16 and limit 0 .. 500 are allowed", () -> {
            LabelHouse house = light(20, 20);
            for (int[] row : new int[][] {{1, 1, 0}, {1, 16, 0}, {16, 16, 0}, {1, 1, 500}, {16, 16, 500}, {1, 16, 500}, {8, 8, 250}}) {
                CHECK.due("scan(" + row[0] + ", " + row[1] + ", " + row[2] + ")", house.scan(row[0], row[1], row[2]), 0);
            }
        });
        refused("least is not 1 .. 16", new int[][] {{0, 1, 0}, {17, 17, 0}, {-1, 16, 0}, {LEAST, 16, 0}, {MOST, MOST, 0}, {0, 0, 0}});
        refused("most is not least .. 16", new int[][] {{2, 1, 0}, {1, 17, 0}, {16, 15, 0}, {1, 0, 0}, {1, LEAST, 0}, {1, MOST, 0}});
        refused("limit is not 0 .. 500", new int[][] {{1, 1, -1}, {1, 1, 501}, {1, 1, LEAST}, {1, 1, MOST}});
    }

    private static void refused(String what, int[][] rows) {
        CHECK.test("promise 19: refused, " + what + ", and what was found stays", () -> {
            LabelHouse house = Houses.printed("^L30,30^O2,3^Q1,0,0^Xa^;^E");
            CHECK.due("scan(1, 1, 0)", house.scan(1, 1, 0), 1);
            for (int[] row : rows) {
                CHECK.badArgument("scan(" + row[0] + ", " + row[1] + ", " + row[2] + ")", () -> house.scan(row[0], row[1], row[2]));
            }
            CHECK.due("found(0, 1)", house.found(0, 1), 3);
            CHECK.due("decode(0)", house.decode(0), 1);
        });
    }

    private static void sizes() {
        CHECK.test("promise 19: module sizes from least to most, both of them too, and no other", () -> {
            LabelHouse house = Houses.printed("^L70,70^O3,3^Q3,0,0^Xa^;^E");
            CHECK.due("scan(1, 2, 0)", house.scan(1, 2, 0), 0);
            CHECK.due("scan(3, 3, 0)", house.scan(3, 3, 0), 1);
            CHECK.due("scan(1, 3, 0)", house.scan(1, 3, 0), 1);
            CHECK.due("scan(3, 16, 0)", house.scan(3, 16, 0), 1);
            CHECK.due("scan(4, 16, 0)", house.scan(4, 16, 0), 0);
        });
        CHECK.test("places: each module size 1 .. 16", () -> {
            for (int m = 1; m <= 16; m++) {
                LabelHouse house = Houses.printed("^L340,340^O4,3^Q" + m + ",0,0^Xa^;^E");
                CHECK.due("told, m " + m, Places.told(house, m, m, 0), "4 3 " + m + " 1 0 0|");
                CHECK.due("of all sizes, m " + m, Places.told(house, 1, 16, 0), "4 3 " + m + " 1 0 0|");
            }
        });
        CHECK.test("places: the largest that are on a sheet of 512 times 512, with m of 16, 2 and 1", () -> {
            LabelHouse sixteen = Houses.printed("^L512,512^O48,48^Q16,0,0^X" + "a".repeat(50) + "^;^E");
            CHECK.due("version 3 of 16", Places.told(sixteen, 16, 16, 0), "48 48 16 3 0 0|");
            LabelHouse edge = Houses.printed("^L512,512^O47,47^Q15,0,0^X" + "a".repeat(70) + "^;^E");
            CHECK.due("version 4 of 15 is off", edge.scan(15, 15, 0), 0);
            LabelHouse fifteen = Houses.printed("^L512,512^O17,17^Q15,0,0^X" + "a".repeat(70) + "^;^E");
            CHECK.due("version 4 of 15", Places.told(fifteen, 15, 15, 0), "17 17 15 4 0 0|");
        });
    }

    private static void edges() {
        CHECK.test("places: all dots lie on the sheet, up to each of its edges", () -> {
            for (int[] at : new int[][] {{0, 0}, {9, 0}, {0, 8}, {9, 8}}) {
                LabelHouse house = Houses.printed("^L30,29^O" + at[0] + "," + at[1] + "^Q1,0,0^Xa^;^E");
                CHECK.due("at " + at[0] + ", " + at[1], Places.told(house, 1, 1, 0), at[0] + " " + at[1] + " 1 1 0 0|");
            }
            for (int[] at : new int[][] {{-1, 0}, {10, 0}, {0, -1}, {0, 9}}) {
                LabelHouse house = Houses.printed("^L30,29^O" + at[0] + "," + at[1] + "^Q1,0,0^Xa^;^E");
                CHECK.due("off at " + at[0] + ", " + at[1], house.scan(1, 1, 0), 0);
            }
        });
        CHECK.test("places: a sheet that is just as large as the symbol, and one that is a dot smaller", () -> {
            for (int m : new int[] {1, 2, 3}) {
                int side = 21 * m;
                LabelHouse fits = Houses.printed("^L" + side + "," + side + "^Q" + m + ",0,0^Xa^;^E");
                CHECK.due("as large", fits.scan(1, 16, 0), 1);
                LabelHouse narrow = Houses.printed("^L" + (side - 1) + "," + side + "^Q" + m + ",0,0^Xa^;^E");
                CHECK.due("narrower", narrow.scan(1, 16, 0), 0);
                LabelHouse low = Houses.printed("^L" + side + "," + (side - 1) + "^Q" + m + ",0,0^Xa^;^E");
                CHECK.due("lower", low.scan(1, 16, 0), 0);
            }
            CHECK.due("20 times 512, with the largest limit", light(20, 512).scan(1, 16, 500), 0);
            CHECK.due("512 times 20", light(512, 20).scan(1, 16, 500), 0);
            CHECK.due("1 times 1", light(1, 1).scan(1, 16, 500), 0);
        });
        CHECK.test("places: a symbol that the sheet cuts off is none, though a larger sheet had it whole", () -> {
            String[] quarters = {"^O20,20^Q1,0,0,0^Xa^;^E", "^O40,20^Q1,0,0,1^Xa^;^E", "^O40,40^Q1,0,0,2^Xa^;^E", "^O20,40^Q1,0,0,3^Xa^;^E"};
            for (String size : new String[] {"40,60", "60,40", "39,60", "60,39"}) {
                for (String symbol : quarters) {
                    LabelHouse house = new LabelHouse();
                    Houses.read(house, "^L60,60" + symbol + "^L" + size + symbol);
                    house.print(0);
                    CHECK.due("scan(1, 1, 5)", house.scan(1, 1, 5), 1);
                    house.print(1);
                    CHECK.due("scan(1, 1, 5) of " + size, house.scan(1, 1, 5), 0);
                }
            }
        });
        CHECK.test("places: versions are 1 .. 40, so one with the marks of a version 41 is none", () -> {
            for (int version : new int[] {40, 41, 42}) {
                int side = 17 + 4 * version;
                LabelHouse house = light(side, side);
                boolean[][] dark = new boolean[side][side];
                for (int[] mark : Places.marks(version)) {
                    dark[mark[1]][mark[0]] = mark[2] == 1;
                }
                spoil(house, dark);
                CHECK.due("version " + version, Places.told(house, 1, 1, 0), version == 40 ? "0 0 1 40 0 0|" : "");
            }
        });
        CHECK.test("places: at each quarter, over all of the sheet", () -> {
            for (int quarter = 0; quarter < 4; quarter++) {
                for (int[] at : new int[][] {{0, 0}, {15, 0}, {0, 5}, {15, 5}, {7, 2}}) {
                    LabelHouse house = Houses.printed("^L40,30^O" + at[0] + "," + at[1] + "^Q1,2,0^X" + "a".repeat(20) + "^;^E");
                    house.turn(quarter);
                    due("quarter " + quarter, house, 1, 1, 0);
                    CHECK.due("found(0, 4)", house.found(0, 4), quarter);
                    CHECK.due("found(0, 3)", house.found(0, 3), 2);
                }
            }
        });
    }

    private static void marks() {
        for (int v : new int[] {1, 2, 3, 7}) {
            CHECK.test("places: each dot of a symbol of version " + v + " counts as wrong if it is a mark's, and no other", () -> {
                for (int quarter = 0; quarter < 4; quarter++) {
                    oneDot(v, quarter);
                }
            });
        }
        CHECK.test("places: each dot of a mark's block counts, with modules of 2 and 3 dots", () -> {
            for (int m = 2; m <= 3; m++) {
                LabelHouse house = Houses.printed("^L63,63^Q" + m + ",0,0^Xa^;^E");
                int side = 21 * m;
                int wrong = 0;
                for (int[] at : new int[][] {{0, 0}, {m, 0}, {7 * m, 0}, {8 * m - 1, 0}, {side - 1, 0}, {0, side - 1}, {9 * m - 1, 14 * m - 1},
                    {8 * m, 13 * m}, {8 * m, 6 * m}, {12 * m, 7 * m - 1}, {6 * m, 9 * m}}) {
                    house.spoil(at[0], at[1], 1);
                    wrong++;
                    house.scan(m, m, 20);
                    CHECK.due("wrong dots with (" + at[0] + ", " + at[1] + ")", house.found(0, 5), wrong);
                }
                house.spoil(8 * m, 0, 1);
                house.spoil(side - 1, side - 1, 1);
                house.spoil(9 * m, 13 * m, 1);
                house.scan(m, m, 20);
                CHECK.due("others are no marks", house.found(0, 5), wrong);
            }
        });
    }

    /** Turns over each dot of a symbol, one at a time. */
    private static void oneDot(int v, int quarter) {
        int side = 17 + 4 * v;
        Symbol symbol = Symbol.of(v, 0, 3, "0000");
        boolean[][] isMark = new boolean[side][side];
        for (int[] mark : Places.marks(v)) {
            int[] block = Places.block(mark[0], mark[1], side, quarter);
            isMark[block[1]][block[0]] = true;
        }
        boolean right = true;
        LabelHouse house = null;
        // four calls for each dot, and an object has 512
        for (int i = 0; i < side * side; i++) {
            if (i % 100 == 0) {
                house = symbol.drawn(side, side, 0, 0, 1);
                house.turn(quarter);
            }
            int x = i % side;
            int y = i / side;
            house.spoil(x, y, 1);
            right &= house.scan(1, 1, 1) == 1 && house.found(0, 5) == (isMark[y][x] ? 1 : 0);
            house.spoil(x, y, 1);
        }
        CHECK.isTrue("the wrong dots at quarter " + quarter, right);
    }

    private static void limits() {
        CHECK.test("places: a symbol can stand with as many wrong dots as the limit, not with one more", () -> {
            LabelHouse house = Houses.printed("^L30,30^O4,5^Q1,0,0^Xa^;^E");
            for (int wrong = 1; wrong <= 12; wrong++) {
                house.spoil(4 + (wrong - 1) % 7, 5 + (wrong - 1) / 7, 1);
                CHECK.due("limit " + (wrong - 1), house.scan(1, 1, wrong - 1), 0);
                CHECK.due("limit " + wrong, Places.told(house, 1, 1, wrong), "4 5 1 1 0 " + wrong + "|");
            }
        });
        CHECK.test("places: the greatest limit, 500, of a light sheet", () -> {
            // a light symbol of version 1 has 106 wrong blocks: 424 dots with m = 2, 954 with m = 3
            LabelHouse house = light(42, 42);
            CHECK.due("m 2, limit 423", house.scan(2, 2, 423), 0);
            CHECK.due("m 2, limit 424", Places.told(house, 2, 2, 424), "0 0 2 1 0 424|");
            CHECK.due("m 2, limit 500", Places.told(house, 2, 2, 500), "0 0 2 1 0 424|");
            CHECK.due("m 3, limit 500", light(63, 63).scan(3, 3, 500), 0);
        });
        CHECK.test("places: a dark sheet has its light marks wrong", () -> {
            LabelHouse house = Houses.printed("^L25,22^F25,22,20^;^E");
            for (int limit : new int[] {92, 93, 94, 95, 96, 97, 98, 99, 100, 105}) {
                due("limit " + limit, house, 1, 1, limit);
            }
        });
        CHECK.test("places: marks alone on light paper, of the dark ones as many wrong dots as the limit", () -> plainPaper(false));
        CHECK.test("places: marks alone on dark paper, of the light ones as many wrong dots as the limit", () -> plainPaper(true));
        CHECK.test("places: wrong dots all in one corner, in two, or in none of them", () -> {
            int[][] corners = {{0, 0}, {14, 0}, {14, 14}, {0, 14}};
            for (int quarter = 0; quarter < 4; quarter++) {
                for (int set = 1; set < 16; set++) {
                    LabelHouse house = Houses.printed("^L25,24^O2,1^Q1,0,2^Xcorner^;^E");
                    house.turn(quarter);
                    int x = house.told(2);
                    int y = house.told(3);
                    for (int c = 0; c < 4; c++) {
                        for (int row = 1; row < 6 && (set >> c & 1) != 0; row++) {
                            house.spoil(x + corners[c][0], y + corners[c][1] + row, 0b101010 << row % 2 & 0x7F);
                        }
                    }
                    for (int limit : new int[] {0, 14, 15, 29, 30, 44, 45}) {
                        due("corners " + set + " at quarter " + quarter + ", limit " + limit, house, 1, 1, limit);
                    }
                }
            }
        });
    }

    private static void plainPaper(boolean paper) {
        Random random = new Random(paper ? 35 : 36);
        for (int[] size : new int[][] {{1, 1}, {1, 2}, {1, 3}, {2, 1}, {2, 2}, {3, 1}, {7, 1}, {20, 1}}) {
            for (int q = 0; q < 4; q++) {
                for (int wrong : new int[] {1, 2, 3, 29, 30, 31, 60}) {
                    LabelHouse house = marksAlone(size[0], size[1], q, paper, wrong, random);
                    String due = "0 0 " + size[1] + " " + size[0] + " " + q + " " + wrong + "|";
                    CHECK.due("limit " + wrong + " of " + due, Places.told(house, size[1], size[1], wrong), due);
                    CHECK.due("one less than " + due, house.scan(size[1], size[1], wrong - 1), 0);
                }
            }
        }
    }

    /** The marks of a version on paper of one shade, some dots of those of the other shade turned over. */
    private static LabelHouse marksAlone(int v, int m, int q, boolean paper, int wrong, Random random) {
        int side = (17 + 4 * v) * m;
        boolean[][] dark = new boolean[side][side];
        for (boolean[] row : dark) {
            Arrays.fill(row, paper);
        }
        List<int[]> dots = new ArrayList<>();
        for (int[] mark : Places.marks(v)) {
            int[] block = Places.block(mark[0], mark[1], 17 + 4 * v, q);
            for (int i = 0; i < m * m && (mark[2] == 1) != paper; i++) {
                dots.add(new int[] {m * block[0] + i % m, m * block[1] + i / m});
            }
        }
        Collections.shuffle(dots, random);
        for (int[] dot : dots.subList(wrong, dots.size())) {
            dark[dot[1]][dot[0]] = !paper;
        }
        LabelHouse house = light(side, side);
        spoil(house, dark);
        return house;
    }

    /** Makes the dots dark of a sheet that is light. */
    private static void spoil(LabelHouse house, boolean[][] dark) {
        for (int y = 0; y < dark.length; y++) {
            for (int x = 0; x < dark[y].length; x += 64) {
                long bits = 0;
                for (int i = 0; i < 64 && x + i < dark[y].length; i++) {
                    bits |= dark[y][x + i] ? 1L << i : 0;
                }
                if (bits != 0) {
                    house.spoil(x, y, bits);
                }
            }
        }
    }

    private static void manyPlaces() {
        CHECK.test("promise 19: 300 places are not too many, 301 are: NONE, and nothing is found", () -> {
            // on a light sheet of 46 times 23 there are 78 places with four quarters of 106 wrong dots each
            LabelHouse house = light(46, 23);
            boolean[][] dark = new boolean[23][46];
            int[] seen = new int[400];
            Random random = new Random(31);
            for (int i = 0; i < 60 && (seen[300] == 0 || seen[301] == 0); i++) {
                int x = random.nextInt(46);
                int y = random.nextInt(23);
                house.spoil(x, y, 1);
                dark[y][x] = !dark[y][x];
                for (int limit = 100; limit <= 109; limit++) {
                    List<Places.Place> places = Places.all(dark, 1, 1, limit);
                    int count = Math.min(places.size(), 399);
                    if (count >= 295 && count <= 305 && seen[count] == 0) {
                        seen[count]++;
                        due(count + " places", house, 1, 1, limit);
                        CHECK.due("NONE", house.found(0, 0) == NONE ? 1 : 0, count > 300 ? 1 : 0);
                    }
                }
            }
            CHECK.isTrue("there were 300", seen[300] > 0);
            CHECK.isTrue("there were 301", seen[301] > 0);
        });
        CHECK.test("promise 19: with NONE what was found before is no more", () -> {
            LabelHouse house = Houses.printed("^L60,60^Q1,0,0^Xa^;^E");
            CHECK.due("scan(1, 1, 0)", house.scan(1, 1, 0), 1);
            CHECK.due("scan(1, 1, 200)", house.scan(1, 1, 200), NONE);
            CHECK.due("found(0, 0)", house.found(0, 0), NONE);
            CHECK.outOfBounds("decode(0)", () -> house.decode(0));
            CHECK.due("scan(1, 1, 0) again", house.scan(1, 1, 0), 1);
        });
        CHECK.test("promise 19: 0 when there is no place, and what was found before is no more", () -> {
            LabelHouse house = Houses.printed("^L60,60^Q1,0,0^Xa^;^E");
            CHECK.due("scan(1, 1, 0)", house.scan(1, 1, 0), 1);
            CHECK.due("scan(2, 2, 0)", house.scan(2, 2, 0), 0);
            CHECK.due("found(0, 0)", house.found(0, 0), NONE);
        });
        CHECK.test("promise 19: places of all module sizes count together", () -> {
            // of 52 times 22 dots there are 64 places of m = 1, with 256 in all; two of 42 dots do not fit, so m = 2 has none
            due("m 1", light(52, 22), 1, 2, 106);
            // 43 times 42: 2 places of m = 2, with eight in all
            LabelHouse house = light(43, 42);
            due("m 2 alone", house, 2, 2, 424);
            due("m 1 and 2", house, 1, 2, 424);
        });
    }

    private static void leaders() {
        CHECK.test("places: two symbols side by side both lead, with a dot in common just one", () -> {
            for (int dx : new int[] {20, 21}) {
                for (int dy : new int[] {0, 20, 21}) {
                    LabelHouse house = Houses.printed("^L50,50^O1,1^Q1,0,0^Xa^;^O" + (1 + dx) + "," + (1 + dy) + "^Q1,0,0^Xa^;^E");
                    due("at " + dx + ", " + dy + " limit 9", house, 1, 1, 9);
                }
            }
            LabelHouse apart = Houses.printed("^L42,21^Q1,0,0^Xa^;^O21^Q1,0,0^Xa^;^E");
            CHECK.due("scan(1, 1, 0)", apart.scan(1, 1, 0), 2);
        });
        CHECK.test("places: side by side, on each side, both lead, whichever has fewer wrong dots", () -> {
            int[][] at = {{0, 21, 21, 21}, {42, 21, 21, 21}, {21, 0, 21, 21}, {21, 42, 21, 21}};
            for (int[] row : at) {
                for (int first = 0; first < 2; first++) {
                    LabelHouse house = Houses.printed("^L63,63^O" + row[0] + "," + row[1] + "^Q1,0,0^Xa^;^O" + row[2] + "," + row[3]
                        + "^Q1,0,0^Xb^;^E");
                    house.spoil(row[2 * first] + 3, row[2 * first + 1], 1);
                    CHECK.due("scan(1, 1, 3)", house.scan(1, 1, 3), 2);
                    due("side by side", house, 1, 1, 3);
                }
            }
            // and with a larger one, whose side is not the same
            LabelHouse large = Houses.printed("^L63,50^Q2,0,0^Xa^;^O42,20^Q1,0,0^Xb^;^E");
            large.spoil(0, 0, 1);
            CHECK.due("beside a larger one", Places.told(large, 1, 2, 1), "0 0 2 1 0 1|42 20 1 1 0 0|");
            LabelHouse below = Houses.printed("^L50,63^Q2,0,0^Xa^;^O20,42^Q1,0,0^Xb^;^E");
            below.spoil(0, 0, 1);
            CHECK.due("below a larger one", Places.told(below, 1, 2, 1), "0 0 2 1 0 1|20 42 1 1 0 0|");
        });
        CHECK.test("places: one dot in common at a corner is enough", () -> {
            // the lower right corner of a symbol is no mark, so another one may begin there
            LabelHouse house = Houses.printed("^L50,50^O1,1^Q1,0,0^Xa^;^O21,21^Q1,0,0^Xb^;^E");
            if (!Houses.dark(house, 21, 21)) {
                house.spoil(21, 21, 1);
            }
            CHECK.due("the first alone leads", Places.told(house, 1, 1, 0), "1 1 1 1 0 0|");
            house.spoil(1, 1, 1);
            CHECK.due("with a wrong dot the other leads", Places.told(house, 1, 1, 1), "21 21 1 1 0 0|");
        });
        CHECK.test("places: one that does not lead itself keeps others from leading", () -> {
            // three in a row, each with a corner dot in common with the next: the first is better than the second, that better than the third
            LabelHouse house = Houses.printed("^L70,70^O1,1^Q1,0,0^Xa^;^O21,21^Q1,0,0^Xb^;^O41,41^Q1,0,0^Xc^;^E");
            for (int at : new int[] {21, 41}) {
                if (!Houses.dark(house, at, at)) {
                    house.spoil(at, at, 1);
                }
            }
            house.spoil(26, 22, 1);
            house.spoil(46, 42, 3);
            CHECK.due("limit 2", Places.told(house, 1, 1, 2), "1 1 1 1 0 0|");
            CHECK.due("limit 0", Places.told(house, 1, 1, 0), "1 1 1 1 0 0|");
            house.spoil(4, 2, 7);
            CHECK.due("the second is the best", Places.told(house, 1, 1, 3), "21 21 1 1 0 1|");
            house.spoil(24, 23, 7);
            CHECK.due("the second is the worst", Places.told(house, 1, 1, 4), "1 1 1 1 0 3|41 41 1 1 0 2|");
        });
        CHECK.test("promise 19: found are those that lead, in order by y, then x", () -> {
            LabelHouse house = Houses.printed("^L90,90^O60,2^Q1,0,0^Xa^;^O2,2^Q1,0,0^Xb^;^O30,1^Q1,0,0^Xc^;^O3,40^Q2,0,0^Xd^;^O50,40^Q1,0,0^Xe^;^E");
            CHECK.due("told", Places.told(house, 1, 2, 0), "30 1 1 1 0 0|2 2 1 1 0 0|60 2 1 1 0 0|3 40 2 1 0 0|50 40 1 1 0 0|");
        });
        CHECK.test("promise 19: wrong dots of places of different sizes are compared as they are", () -> {
            LabelHouse within = Houses.printed("^L100,100^O2,2^Q2,0,0^X" + "a".repeat(100)
                + "^;^O43,47^F23,23,99^;^R^O43,47^F23,23,99^;^O44,48^Q1,0,0^Xb^;^E");
            CHECK.due("the large one comes first", Places.told(within, 1, 2, 0), "2 2 2 5 0 0|");
            within.spoil(2, 2, 1);
            CHECK.due("the small one has fewer", Places.told(within, 1, 2, 1), "44 48 1 1 0 0|");
            within.spoil(44, 48, 1);
            CHECK.due("as many again", Places.told(within, 1, 2, 1), "2 2 2 5 0 1|");
            // a small one in the part of a large one of version 1 that has no marks
            LabelHouse free = Houses.printed("^L63,63^Q3,0,0^Xa^;^O30,30^F21,21,11^;^R^O30,30^F21,21,11^;^O30,30^Q1,0,0^Xb^;^E");
            CHECK.due("the large one comes first", Places.told(free, 1, 3, 0), "0 0 3 1 0 0|");
            free.spoil(0, 0, 1);
            CHECK.due("the small one has fewer", Places.told(free, 1, 3, 1), "30 30 1 1 0 0|");
        });
    }

    /** Makes two places have as many wrong dots, by dots of one of them alone: the first of both must lead then. */
    private static void tie(String what, LabelHouse house, Places.Place one, Places.Place other) {
        boolean[][] dark = Places.sheet(house);
        for (int i = 0; i < 3000 && wrong(dark, one) != wrong(dark, other); i++) {
            boolean first = wrong(dark, one) < wrong(dark, other);
            Places.Place better = first ? one : other;
            Places.Place worse = first ? other : one;
            int[] dot = dotOf(dark, worse, better, true);
            dot = dot == null ? dotOf(dark, better, worse, false) : dot;
            dark[dot[1]][dot[0]] = !dark[dot[1]][dot[0]];
            house.spoil(dot[0], dot[1], 1);
        }
        int wrong = wrong(dark, one);
        CHECK.due(what + ": both have as many wrong dots", wrong(dark, other), wrong);
        int least = Math.min(one.m(), other.m());
        int most = Math.max(one.m(), other.m());
        List<Places.Place> leaders = Places.leaders(Places.all(dark, least, most, wrong));
        CHECK.isTrue(what + ": one of both leads", leaders.stream().anyMatch(p -> p.x() == one.x() && p.y() == one.y() && p.wrong() == wrong
            && p.m() == one.m() && p.v() == one.v() && p.q() == one.q()));
        due(what, house, least, most, wrong);
    }

    private static int wrong(boolean[][] dark, Places.Place p) {
        return Places.wrong(dark, Places.marks(p.v()), p.x(), p.y(), p.m(), p.v(), p.q(), 1 << 20);
    }

    /** A dot of a mark of one place that is no mark's of the other, and wrong (or right) there; null when there is none. */
    private static int[] dotOf(boolean[][] dark, Places.Place one, Places.Place other, boolean isWrong) {
        boolean[][] taken = new boolean[dark.length][dark[0].length];
        for (int[] mark : Places.marks(other.v())) {
            int[] block = Places.block(mark[0], mark[1], 17 + 4 * other.v(), other.q());
            for (int i = 0; i < other.m() * other.m(); i++) {
                taken[other.y() + other.m() * block[1] + i / other.m()][other.x() + other.m() * block[0] + i % other.m()] = true;
            }
        }
        for (int[] mark : Places.marks(one.v())) {
            int[] block = Places.block(mark[0], mark[1], 17 + 4 * one.v(), one.q());
            for (int i = 0; i < one.m() * one.m(); i++) {
                int x = one.x() + one.m() * block[0] + i % one.m();
                int y = one.y() + one.m() * block[1] + i / one.m();
                if (!taken[y][x] && (dark[y][x] != (mark[2] == 1)) == isWrong) {
                    return new int[] {x, y};
                }
            }
        }
        return null;
    }

    private static void ties() {
        CHECK.test("places: of two with as many wrong dots the one with the lesser y leads, then the lesser x", () -> {
            LabelHouse rows = Houses.printed("^L40,60^O3,21^Q1,0,0^Xa^;^O1,1^Q1,0,0^Xa^;^E");
            due("y", rows, 1, 1, 8);
            LabelHouse wide = light(22, 21);
            CHECK.due("x", Places.told(wide, 1, 1, 106), "0 0 1 1 0 106|");
            LabelHouse high = light(21, 22);
            CHECK.due("y", Places.told(high, 1, 1, 106), "0 0 1 1 0 106|");
            LabelHouse both = light(22, 22);
            both.spoil(0, 0, 1);
            due("with a dot", both, 1, 1, 106);
        });
        CHECK.test("places: y comes before x, also where x would tell otherwise", () -> {
            // the symbol at (20, 0) comes before the one at (0, 20): they have the dot (20, 20) in common
            LabelHouse house = Houses.printed("^L41,41^O20,0^Q1,0,0^Xa^;^O0,20^Q1,0,0,1^Xa^;^E");
            due("limit 3", house, 1, 1, 3);
        });
        CHECK.test("places: at one place the lesser module size leads", () -> {
            // the large symbol has no marks where the small one stands, which is at its corner without one
            LabelHouse house = Houses.printed("^L42,42^O41,41^Q2,0,0,2^Xa^;^F21,21,11^;^R^F21,21,11^;^Q1,0,0^Xb^;^E");
            CHECK.due("m", Places.told(house, 1, 2, 0), "0 0 1 1 0 0|");
            house.spoil(0, 0, 1);
            CHECK.due("the larger one has fewer wrong dots", Places.told(house, 1, 2, 1), "0 0 2 1 2 0|");
            house.spoil(41, 41, 1);
            CHECK.due("as many again", Places.told(house, 1, 2, 1), "0 0 1 1 0 1|");
        });
        CHECK.test("places: at one place the lesser version leads", () -> {
            LabelHouse house = Houses.printed("^L25,25^Q1,0,0^X" + "a".repeat(20) + "^;^E");
            tie("v", house, new Places.Place(0, 0, 1, 1, 0, 0), new Places.Place(0, 0, 1, 2, 0, 0));
        });
        CHECK.test("places: at one place the lesser quarter leads", () -> {
            for (int q = 0; q < 3; q++) {
                LabelHouse house = light(21, 21);
                tie("q", house, new Places.Place(0, 0, 1, 1, 0, 0), new Places.Place(0, 0, 1, 1, q + 1, 0));
            }
            LabelHouse house = light(21, 21);
            // dots of the corner that is missing at quarter 0 make 1 to 3 better
            house.spoil(14, 14, 0x7F);
            CHECK.due("1 before 2 and 3", Places.told(house, 1, 1, 106), "0 0 1 1 1 99|");
        });
    }

    private static void everywhere() {
        CHECK.test("promise 19: all places, of sheets of all kinds", () -> {
            Random random = new Random(33);
            for (int i = 0; i < 120; i++) {
                int w = 21 + random.nextInt(30);
                int h = 21 + random.nextInt(30);
                LabelHouse house = light(w, h);
                int symbols = random.nextInt(3);
                StringBuilder text = new StringBuilder("^L" + w + "," + h);
                for (int s = 0; s < symbols; s++) {
                    text.append("^R^O").append(random.nextInt(w)).append(',').append(random.nextInt(h)).append("^Q")
                        .append(1 + random.nextInt(2)).append(",0,").append(random.nextInt(8)).append(',').append(random.nextInt(4))
                        .append("^Xsymbol").append(i % 3 == 0 ? " of version two" : "").append("^;");
                }
                Houses.read(house, text + "^E");
                house.print(0);
                int noise = random.nextInt(4) * random.nextInt(15);
                for (int n = 0; n < noise; n++) {
                    house.spoil(random.nextInt(w), random.nextInt(h), 1 + random.nextInt(3));
                }
                for (int limit : new int[] {0, 10, 60, 80, 90, 100, 110}) {
                    due("sheet " + i + ", limit " + limit, house, 1, 2, limit);
                }
            }
        });
        CHECK.test("promise 19: all places of sheets of random dots", () -> {
            Random random = new Random(34);
            for (int i = 0; i < 40; i++) {
                int w = 21 + random.nextInt(12);
                int h = 21 + random.nextInt(12);
                LabelHouse house = light(w, h);
                for (int y = 0; y < h; y++) {
                    house.spoil(0, y, random.nextLong() & (i % 2 == 0 ? -1L : random.nextLong()));
                }
                for (int limit = 60; limit <= 110; limit += 5) {
                    due("sheet " + i + ", limit " + limit, house, 1, 16, limit);
                }
            }
        });
    }

    private static void found() {
        CHECK.test("promise 20: x, y, m, v, q and wrong dots of each place", () -> {
            LabelHouse house = Houses.printed("^L512,512^O500,490^Q3,0,0,2^X" + "a".repeat(30) + "^;^E");
            house.spoil(500, 490, 1);
            CHECK.due("scan(1, 4, 1)", house.scan(1, 4, 1), 1);
            int[] due = {500 - 3 * 25 + 1, 490 - 3 * 25 + 1, 3, 2, 2, 1};
            for (int what = 0; what < 6; what++) {
                CHECK.due("found(0, " + what + ")", house.found(0, what), due[what]);
            }
        });
        CHECK.test("promise 20: NONE when there is no place k", () -> {
            LabelHouse house = Houses.printed("^L42,21^Q1,0,0^Xa^;^O21^Q1,0,0^Xb^;^E");
            CHECK.due("found(0, 0) before scan()", house.found(0, 0), NONE);
            CHECK.due("scan(1, 1, 0)", house.scan(1, 1, 0), 2);
            CHECK.due("found(1, 0)", house.found(1, 0), 21);
            for (int k : new int[] {2, -1, LEAST, MOST}) {
                for (int what = 0; what < 6; what++) {
                    CHECK.due("found(" + k + ", " + what + ")", house.found(k, what), NONE);
                }
            }
        });
        CHECK.test("promise 20: refused, another what, before it is NONE", () -> {
            LabelHouse house = Houses.printed("^L42,21^Q1,0,0^Xa^;^E");
            for (int round = 0; round < 2; round++) {
                for (int what : new int[] {-1, 6, LEAST, MOST}) {
                    for (int k : new int[] {0, 1, -1}) {
                        CHECK.badArgument("found(" + k + ", " + what + ")", () -> house.found(k, what));
                    }
                }
                house.scan(1, 1, 0);
            }
        });
        CHECK.test("promise 20: places stay while the sheet is spoiled and texts are read, and each scan() has its own", () -> {
            LabelHouse house = Houses.printed("^L42,21^Q1,0,0^Xa^;^E");
            house.scan(1, 1, 0);
            house.spoil(0, 0, -1);
            Houses.read(house, "^L9,9^E");
            house.bars(0, 0, true);
            CHECK.due("found(0, 5)", house.found(0, 5), 0);
            CHECK.due("scan(1, 1, 0)", house.scan(1, 1, 0), 0);
            CHECK.due("found(0, 5) then", house.found(0, 5), NONE);
        });
    }
}
