import java.util.Random;

/** Promises 4, 5 and 12 to 18: fonts, figures, and the sheet itself. */
public final class SheetTest {
    private static final Check CHECK = new Check();

    public static void main(String[] args) {
        font();
        cell();
        print();
        texts();
        frames();
        ellipses();
        lines();
        pictures();
        drawn();
        spoil();
        turn();
        told();
        dots();
        run();
        CHECK.exit();
    }

    private static void font(LabelHouse house, int font, int w, int h, int gap) {
        house.font(font, w, h, gap);
    }

    private static void font() {
        CHECK.begin("promise 4: font");
        LabelHouse house = new LabelHouse();
        int[][] wrong = {{-1, 1, 1, 0}, {4, 1, 1, 0}, {0, 0, 1, 0}, {0, 33, 1, 0}, {0, 1, 0, 0}, {0, 1, 33, 0},
            {0, 1, 1, -1}, {0, 1, 1, 33}};
        house.cell(0, 'A', 0, 1);
        for (int[] row : wrong) {
            CHECK.badArgument("font of " + row[0] + ", " + row[1] + ", " + row[2] + ", " + row[3], () -> {
                house.font(row[0], row[1], row[2], row[3]);
                return 0;
            });
        }
        Houses.read(house, "^L24,3^XAA^T^;^XAA^O,1^T1^;^E");
        house.print(0);
        CHECK.due("a wrong call changes nothing", Houses.row(house, 0), ".......#.......#........");
        font(house, 0, 2, 2, 3);
        house.print(0);
        CHECK.due("the cells are light then", house.told(6), 0);
        house.cell(0, 'A', 0, 3);
        house.cell(1, 'A', 0, 128);
        house.print(0);
        CHECK.due("cells of 2 and a gap of 3", Houses.row(house, 0), "##...##.................");
        CHECK.due("the other font", Houses.row(house, 1), "#.......#...............");
        font(house, 3, 32, 32, 32);
        house.cell(3, 'A', 31, Integer.MIN_VALUE + 1);
        Houses.read(house, "^L100,40^XAA^T3^;^E");
        house.print(0);
        CHECK.due("the largest cells", Houses.row(house, 31),
            "#" + ".".repeat(30) + "#" + ".".repeat(32) + "#" + ".".repeat(30) + "#" + ".".repeat(4));
        CHECK.end();
    }

    private static void cell() {
        CHECK.begin("promise 5: cell");
        LabelHouse house = new LabelHouse();
        font(house, 2, 5, 3, 0);
        house.cell(2, 0, 2, 0b10110);
        house.cell(2, 255, 0, -1);
        house.cell(2, 255, 0, 0b11111_01000);
        Houses.read(house, "^L12,4^X_00_FF^T2^;^E");
        house.print(0);
        CHECK.due("bit w - 1 - c is column c; others are left out", Houses.sheet(house),
            "......#..... ............ #.##........ ............");
        CHECK.badArgument("cell of font 4", () -> cell(house, 4, 0, 0));
        CHECK.badArgument("cell of font -1", () -> cell(house, -1, 0, 0));
        CHECK.badArgument("cell of code 256", () -> cell(house, 0, 256, 0));
        CHECK.badArgument("cell of code -1, row 9", () -> cell(house, 0, -1, 9));
        CHECK.outOfBounds("cell of row 3 of 3", () -> cell(house, 2, 0, 3));
        CHECK.outOfBounds("cell of row -1", () -> cell(house, 2, 0, -1));
        CHECK.outOfBounds("cell of row 8 of 8", () -> cell(house, 0, 0, 8));
        CHECK.due("row 7 of 8", cell(house, 0, 0, 7), 0);
        CHECK.end();
    }

    private static long cell(LabelHouse house, int font, int code, int r) {
        house.cell(font, code, r, -1);
        return 0;
    }

    private static void print() {
        CHECK.begin("promise 12: print");
        LabelHouse house = new LabelHouse();
        Houses.read(house, "^L30,20^F4,3,1^;^Xa" + "_81^B^;^T^X" + "b".repeat(65) + "^;^B^X" + "b".repeat(65) + "^;^E^L1,512^E");
        CHECK.due("print(0)", house.print(0), 2);
        CHECK.due("width", house.told(0), 30);
        CHECK.due("height", house.told(1), 20);
        CHECK.due("dots", house.told(6), 10);
        CHECK.due("print(0) again, on a new sheet", house.print(0), 2);
        CHECK.due("dots", house.told(6), 10);
        CHECK.outOfBounds("print(2)", () -> house.print(2));
        CHECK.outOfBounds("print(-1)", () -> house.print(-1));
        CHECK.due("the sheet stays", house.told(6), 10);
        CHECK.due("print(1)", house.print(1), 0);
        CHECK.due("height", house.told(1), 512);
        CHECK.due("dots", house.told(6), 0);
        // a mark, 128, is a sign; 64 signs are not too many
        LabelHouse marks = Houses.printed("^L512,9^B1,9^X_80^;^B1,9^X" + "1".repeat(64) + "^;^E");
        CHECK.isTrue("64 signs are drawn", marks.drawn(1) > 0);
        CHECK.isTrue("a mark is drawn", marks.drawn(0) > 0);
        LabelHouse found = Houses.printed("^L40,40^Q1^Xa^;^E");
        CHECK.due("scan(1, 1, 0)", found.scan(1, 1, 0), 1);
        found.print(0);
        CHECK.due("nothing is found then", found.found(0, 0), -1);
        CHECK.end();
    }

    private static void texts() {
        CHECK.begin("promise 12: texts");
        LabelHouse house = new LabelHouse();
        font(house, 1, 3, 2, 1);
        house.cell(1, 'A', 0, 0b110);
        house.cell(1, 'A', 1, 0b001);
        Houses.read(house, "^L16,4^T1,1,1,0^XA A^;^E");
        house.print(0);
        CHECK.due("plain", Houses.sheet(house), "##......##...... ..#.......#..... ................ ................");
        Houses.read(house, "^L16,6^T1,2,3,0^XAA^;^E");
        house.print(0);
        CHECK.due("scaled, row 2", Houses.row(house, 2), "####....####....");
        CHECK.due("scaled, row 5", Houses.row(house, 5), "....##......##..");
        for (int r = 0; r < 4; r++) {
            Houses.read(house, "^L16,16^O7,8^T1,1,1," + r + "^XAA^;^E");
            house.print(0);
            int[][] steps = {{0, 0}, {1, 0}, {2, 1}, {4, 0}, {5, 0}, {6, 1}};
            CHECK.due("dots at quarter " + r, house.told(6), 6);
            for (int[] step : steps) {
                int x = r == 0 ? 7 + step[0] : r == 1 ? 7 - step[1] : r == 2 ? 7 - step[0] : 7 + step[1];
                int y = r == 0 ? 8 + step[1] : r == 1 ? 8 + step[0] : r == 2 ? 8 - step[1] : 8 - step[0];
                CHECK.isTrue("a step at quarter " + r, Houses.dark(house, x, y));
            }
        }
        CHECK.end();
    }

    /** Draws a field twice, the second time turned over, and compares all dots with a figure. */
    private static void due(String field, int w, int h, Figures.Figure figure) {
        LabelHouse house = Houses.printed("^L" + w + "," + h + field + "^;^E");
        int dots = 0;
        boolean same = true;
        for (int y = 0; y < h; y++) {
            for (int x = 0; x < w; x++) {
                dots += figure.has(x, y) ? 1 : 0;
                same &= figure.has(x, y) == Houses.dark(house, x, y);
            }
        }
        CHECK.isTrue("the dots of " + field, same);
        CHECK.due("drawn(0) of " + field, house.drawn(0), dots);
        LabelHouse over = Houses.printed("^L" + w + "," + h + "^F512,512,200^;" + "^R" + field + "^;^E");
        CHECK.due("turned over, " + field, over.told(6), Math.min(w * h, over.drawn(0)) - dots);
    }

    private static void frames() {
        CHECK.begin("promise 12: frames");
        int[][] cases = {{5, 6, 20, 15, 3}, {-4, -4, 30, 20, 5}, {0, 0, 9, 9, 4}, {0, 0, 9, 9, 5}, {0, 0, 8, 8, 4},
            {30, 3, 40, 2, 1}, {3, 3, 1, 1, 1}, {3, 3, 3, 3, 1}, {-100, 5, 2048, 9, 2}, {50, 50, 9, 9, 1}};
        for (int[] c : cases) {
            due("^O" + c[0] + "," + c[1] + "^F" + c[2] + "," + c[3] + "," + c[4], 45, 40, Figures.frame(c[0], c[1], c[2], c[3], c[4]));
        }
        CHECK.end();
    }

    private static void ellipses() {
        CHECK.begin("promise 12: ellipses");
        Random random = new Random(5);
        for (int i = 0; i < 60; i++) {
            int w = 1 + random.nextInt(i % 5 == 0 ? 2048 : 50);
            int h = 1 + random.nextInt(i % 7 == 0 ? 2048 : 50);
            int t = 1 + random.nextInt(i % 3 == 0 ? 200 : 8);
            int x = random.nextInt(30) - (w > 60 ? w / 2 : 10);
            int y = random.nextInt(30) - (h > 60 ? h / 2 : 10);
            due("^O" + x + "," + y + "^I" + w + "," + h + "," + t, 64, 50, Figures.ellipse(x, y, w, h, t));
        }
        CHECK.end();
    }

    private static void lines() {
        CHECK.begin("promise 12: lines");
        Random random = new Random(6);
        for (int i = 0; i < 80; i++) {
            int span = i % 6 == 0 ? 3000 : 60;
            int dx = i % 8 == 1 ? 0 : random.nextInt(2 * span) - span;
            int dy = i % 8 == 2 ? 0 : random.nextInt(2 * span) - span;
            int t = 1 + random.nextInt(i % 3 == 0 ? 200 : 6);
            int x = random.nextInt(40) - (i % 6 == 0 ? dx / 2 : 5);
            int y = random.nextInt(40) - (i % 6 == 0 ? dy / 2 : 5);
            due("^O" + x + "," + y + "^G" + dx + "," + dy + "," + t, 50, 45, Figures.line(x, y, dx, dy, t));
        }
        CHECK.due("a thin line", Houses.sheet(Houses.printed("^L5,3^G4,2,1^;^E")), "##... .###. ...##");
        CHECK.due("of 2", Houses.sheet(Houses.printed("^L5,3^O1,1^G2,0,2^;^E")), ".###. ##### .###.");
        CHECK.end();
    }

    private static void pictures() {
        CHECK.begin("promise 12: pictures");
        CHECK.due("8 wide", Houses.sheet(Houses.printed("^L9,3^P^O1^X81f001^;^E")), ".#......# .####.... ........#");
        CHECK.due("10 wide", Houses.sheet(Houses.printed("^L12,2^P10^Xff7f80bf^;^E")), "########.#.. #.......#...");
        CHECK.due("partly off", Houses.sheet(Houses.printed("^L3,2^P8^O-5,-1^Xffa5ff^;^E")), "#.# ###");
        CHECK.due("its dots on the sheet", Houses.printed("^L3,2^P8^O-5,-1^Xffa5ff^;^E").drawn(0), 5);
        CHECK.end();
    }

    private static void drawn() {
        CHECK.begin("promise 13: drawn");
        LabelHouse house = new LabelHouse();
        CHECK.due("drawn(0)", house.drawn(0), -1);
        Houses.read(house, "^L20,10^F^;^E^L20,10^O15,8^F9,9,9^;^B^X_FF^;^R^O15,8^F9,9,9^;^O99^F^;^E");
        house.print(1);
        int[] due = {10, -1, 10, 0, -1};
        for (int round = 0; round < 2; round++) {
            for (int i = 0; i < due.length; i++) {
                CHECK.due("drawn(" + i + ")", house.drawn(i), due[i]);
            }
            CHECK.due("drawn(-1)", house.drawn(-1), -1);
            // it is told whatever is read, turned or spoiled
            Houses.read(house, "^L5,5^E");
            house.turn(1);
            house.spoil(0, 0, -1);
        }
        house.print(0);
        CHECK.due("drawn(0) of a label without orders", house.drawn(0), -1);
        CHECK.end();
    }

    private static void spoil() {
        CHECK.begin("promise 14: spoil");
        LabelHouse house = Houses.printed("^L70,3^E");
        CHECK.due("spoil(0, 0, 5)", house.spoil(0, 0, 5), 2);
        CHECK.due("row 0", house.dots(0, 0), 5);
        CHECK.due("spoil(2, 0, 3)", house.spoil(2, 0, 3), 2);
        CHECK.due("row 0", house.dots(0, 0), 9);
        CHECK.due("spoil(65, 1, -1)", house.spoil(65, 1, -1), 5);
        CHECK.due("row 1", house.dots(64, 1), 62);
        CHECK.due("spoil(-60, 2, -1)", house.spoil(-60, 2, -1), 4);
        CHECK.due("row 2", house.dots(0, 2), 15);
        CHECK.due("the highest bit", house.spoil(-63, 2, Long.MIN_VALUE), 1);
        CHECK.due("row 2", house.dots(0, 2), 14);
        CHECK.due("below", house.spoil(0, 3, -1), 0);
        CHECK.due("above", house.spoil(0, -1, -1), 0);
        CHECK.due("far right", house.spoil(Integer.MAX_VALUE, 0, -1), 0);
        CHECK.due("far left", house.spoil(Integer.MIN_VALUE, 0, -1), 0);
        CHECK.due("far below", house.spoil(0, Integer.MAX_VALUE, -1), 0);
        CHECK.due("far above", house.spoil(0, Integer.MIN_VALUE, -1), 0);
        CHECK.due("all dots", house.told(6), 2 + 5 + 3);
        LabelHouse found = Houses.printed("^L40,40^Q1^Xa^;^E");
        found.scan(1, 1, 0);
        found.spoil(0, 0, 1);
        CHECK.due("what was found stays", found.found(0, 3), 1);
        CHECK.end();
    }

    private static void turn() {
        CHECK.begin("promise 15: turn");
        for (int quarter = 0; quarter < 4; quarter++) {
            LabelHouse house = Houses.printed("^L130,70^G129,69,3^;^O100,5^F20,9,2^;^O3,40^I50,20,4^;^E");
            boolean[][] before = new boolean[70][130];
            for (int y = 0; y < 70; y++) {
                for (int x = 0; x < 130; x++) {
                    before[y][x] = Houses.dark(house, x, y);
                }
            }
            int dark = house.told(6);
            house.turn(quarter);
            boolean even = quarter % 2 == 0;
            CHECK.due("width", house.told(0), even ? 130 : 70);
            CHECK.due("height", house.told(1), even ? 70 : 130);
            CHECK.due("dark dots", house.told(6), dark);
            boolean same = true;
            for (int y = 0; y < 70; y++) {
                for (int x = 0; x < 130; x++) {
                    int toX = quarter == 0 ? x : quarter == 1 ? 69 - y : quarter == 2 ? 129 - x : y;
                    int toY = quarter == 0 ? y : quarter == 1 ? x : quarter == 2 ? 69 - y : 129 - x;
                    same &= before[y][x] == Houses.dark(house, toX, toY);
                }
            }
            CHECK.isTrue("all dots come where they should, " + quarter, same);
        }
        LabelHouse found = Houses.printed("^L40,40^Q1^Xa^;^E");
        CHECK.due("scan(1, 1, 0)", found.scan(1, 1, 0), 1);
        CHECK.badArgument("turn(4)", () -> turned(found, 4));
        CHECK.badArgument("turn(-1)", () -> turned(found, -1));
        CHECK.due("what was found stays", found.found(0, 3), 1);
        found.turn(0);
        CHECK.due("nothing is found then", found.found(0, 3), -1);
        CHECK.end();
    }

    private static long turned(LabelHouse house, int quarter) {
        house.turn(quarter);
        return 0;
    }

    private static void told() {
        CHECK.begin("promise 16: told");
        LabelHouse house = Houses.printed("^L300,200^O70,30^F5,9,1^;^O299,100^F^;^O100,199^F^;^E");
        int[] due = {300, 200, 70, 30, 299, 199, 26};
        for (int what = 0; what < 7; what++) {
            CHECK.due("told(" + what + ")", house.told(what), due[what]);
        }
        CHECK.badArgument("told(7)", () -> house.told(7));
        CHECK.badArgument("told(-1)", () -> house.told(-1));
        LabelHouse light = Houses.printed("^L300,200^E");
        for (int what = 2; what < 7; what++) {
            CHECK.due("told(" + what + ") of a light sheet", light.told(what), what == 6 ? 0 : -1);
        }
        light.spoil(127, 63, 1);
        int[] one = {300, 200, 127, 63, 127, 63, 1};
        for (int what = 0; what < 7; what++) {
            CHECK.due("told(" + what + ") of one dot", light.told(what), one[what]);
        }
        CHECK.end();
    }

    private static void dots() {
        CHECK.begin("promise 17: dots");
        LabelHouse house = Houses.printed("^L100,2^O0,0^F100,1,1^;^O63,1^F2,1,1^;^E");
        CHECK.due("dots(0, 0)", house.dots(0, 0), -1);
        CHECK.due("dots(36, 0)", house.dots(36, 0), -1);
        CHECK.due("dots(37, 0)", house.dots(37, 0), -1L >>> 1);
        CHECK.due("dots(99, 0)", house.dots(99, 0), 1);
        CHECK.due("dots(100, 0)", house.dots(100, 0), 0);
        CHECK.due("dots(-1, 0)", house.dots(-1, 0), -2);
        CHECK.due("dots(-63, 0)", house.dots(-63, 0), Long.MIN_VALUE);
        CHECK.due("dots(-64, 0)", house.dots(-64, 0), 0);
        CHECK.due("dots(0, 1)", house.dots(0, 1), Long.MIN_VALUE);
        CHECK.due("dots(1, 1)", house.dots(1, 1), Long.MIN_VALUE >> 1);
        CHECK.due("dots(64, 1)", house.dots(64, 1), 1);
        int[] far = {Integer.MIN_VALUE, Integer.MAX_VALUE, Integer.MAX_VALUE - 30, -1000, 1000};
        for (int x : far) {
            CHECK.due("dots(" + x + ", 0)", house.dots(x, 0), 0);
            CHECK.due("dots(0, " + x + ")", house.dots(0, x), 0);
        }
        CHECK.due("dots(0, 2)", house.dots(0, 2), 0);
        CHECK.due("dots(0, -1)", house.dots(0, -1), 0);
        CHECK.end();
    }

    private static void run() {
        CHECK.begin("promise 18: run");
        LabelHouse house = Houses.printed("^L90,6^P16^X_330F70^X0F70^;^O20,0^F3,6,1^;^E");
        // row 0: ....####.####... with ### from 20 on
        int[] across = {4, 4, 1, 3, 8, 3, 67};
        for (int i = 0; i < across.length; i++) {
            CHECK.due("run(0, 0, " + i + ", false)", house.run(0, 0, i, false), across[i]);
        }
        CHECK.due("behind the last one", house.run(0, 0, 7, false), -1);
        CHECK.due("before the first one", house.run(0, 0, -1, false), -1);
        CHECK.due("from within a run", house.run(6, 0, 0, false), 2);
        CHECK.due("the next one", house.run(6, 0, 1, false), 1);
        CHECK.due("down, 0", house.run(21, 0, 0, true), 1);
        CHECK.due("down, 1", house.run(21, 0, 1, true), 4);
        CHECK.due("down, 2", house.run(21, 0, 2, true), 1);
        CHECK.due("down, 3", house.run(21, 0, 3, true), -1);
        CHECK.due("at the corner", house.run(89, 5, 0, true), 1);
        CHECK.outOfBounds("run(90, 0, 0, false)", () -> house.run(90, 0, 0, false));
        CHECK.outOfBounds("run(0, 6, 0, true)", () -> house.run(0, 6, 0, true));
        CHECK.outOfBounds("run(-1, 0, 9, false)", () -> house.run(-1, 0, 9, false));
        CHECK.outOfBounds("run(0, -1, 0, false)", () -> house.run(0, -1, 0, false));
        CHECK.end();
    }
}
