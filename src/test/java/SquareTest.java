import java.util.Random;

/** Promises 19 to 21, and 23 for square symbols; also how such symbols are drawn. */
public final class SquareTest {
    private static final String SIGNS = "0123456789ABCDEFGHIJKLMNOPQRSTUVWXYZ $%*+-./:";
    private static final Check CHECK = new Check();

    public static void main(String[] args) {
        versions();
        segments();
        masks();
        scan();
        limits();
        corners();
        leaders();
        found();
        decode();
        mending();
        faults();
        reading();
        CHECK.exit();
    }

    private static LabelHouse withSymbol(String numbers, String data) {
        return Houses.printed("^L300,300^O5,7^Q" + numbers + "^X" + Houses.escaped(data) + "^;^E");
    }

    /** The side of a symbol in modules, by its dots: those of the first corner reach its edges. */
    private static int version(String data, int level) {
        LabelHouse house = withSymbol("1," + level, data);
        return (house.told(4) - 5 + 1 - 17) / 4;
    }

    private static void versions() {
        CHECK.begin("promise 12: versions of squares");
        CHECK.due("41 digits", version("1".repeat(41), 0), 1);
        CHECK.due("42 digits", version("1".repeat(42), 0), 2);
        CHECK.due("25 signs", version("A".repeat(25), 0), 1);
        CHECK.due("26 signs", version("A".repeat(26), 0), 2);
        CHECK.due("17 bytes", version("a".repeat(17), 0), 1);
        CHECK.due("18 bytes", version("a".repeat(18), 0), 2);
        CHECK.due("7 bytes of level 3", version("a".repeat(7), 3), 1);
        CHECK.due("8 bytes of level 3", version("a".repeat(8), 3), 2);
        CHECK.due("14 bytes of level 1", version("a".repeat(14), 1), 1);
        CHECK.due("11 bytes of level 2", version("a".repeat(11), 2), 1);
        CHECK.due("12 bytes of level 2", version("a".repeat(12), 2), 2);
        // from version 10 on the count of bytes takes more bits
        CHECK.due("180 bytes of level 1", version("a".repeat(180), 1), 9);
        CHECK.due("181 bytes of level 1", version("a".repeat(181), 1), 10);
        CHECK.due("200 bytes of level 3", version("a".repeat(200), 3), 15);
        CHECK.end();
    }

    private static boolean isFixed(int x, int y) {
        return x == 6 || y == 6 || (x < 9 && y < 9) || (x > 12 && y < 9) || (x < 9 && y > 12);
    }

    private static boolean isTurned(int mask, int x, int y) {
        int p = x * y;
        boolean[] all = {(x + y) % 2 == 0, y % 2 == 0, x % 3 == 0, (x + y) % 3 == 0, (x / 3 + y / 2) % 2 == 0,
            p % 2 + p % 3 == 0, (p % 2 + p % 3) % 2 == 0, ((x + y) % 2 + p % 3) % 2 == 0};
        return all[mask];
    }

    /** The bits of the codewords of a symbol of version 1 at (5, 7) with modules of one dot. */
    private static String bits(LabelHouse house, int mask) {
        StringBuilder text = new StringBuilder();
        int[] rights = {20, 18, 16, 14, 12, 10, 8, 5, 3, 1};
        for (int pair = 0; pair < rights.length; pair++) {
            for (int i = 0; i < 21; i++) {
                for (int x = rights[pair]; x > rights[pair] - 2; x--) {
                    int y = pair % 2 == 0 ? 20 - i : i;
                    if (!isFixed(x, y)) {
                        text.append(Houses.dark(house, 5 + x, 7 + y) != isTurned(mask, x, y) ? '1' : '0');
                    }
                }
            }
        }
        return text.toString();
    }

    private static String inBits(int value, int width) {
        String text = Integer.toBinaryString(value);
        return "0".repeat(width - text.length()) + text;
    }

    /** The segments of a row of modes, which tells for each byte of the data which it has; null if it cannot. */
    private static String written(String data, String modes) {
        StringBuilder text = new StringBuilder();
        int start = 0;
        for (int end = 1; end <= data.length(); end++) {
            if (end < data.length() && modes.charAt(end) == modes.charAt(start)) {
                continue;
            }
            String part = data.substring(start, end);
            int mode = modes.charAt(start) - '0';
            text.append(inBits(1 << mode, 4)).append(inBits(part.length(), 10 - mode));
            for (int i = 0; i < part.length(); i += 3 - mode) {
                String piece = part.substring(i, Math.min(part.length(), i + 3 - mode));
                if (mode == 2) {
                    text.append(inBits(piece.charAt(0), 8));
                } else if (mode == 0 && piece.chars().allMatch(Character::isDigit)) {
                    text.append(inBits(Integer.parseInt(piece), 3 * piece.length() + 1));
                } else if (mode == 1 && piece.chars().allMatch(c -> SIGNS.indexOf(c) >= 0)) {
                    int first = SIGNS.indexOf(piece.charAt(0));
                    boolean pair = piece.length() == 2;
                    text.append(pair ? inBits(45 * first + SIGNS.indexOf(piece.charAt(1)), 11) : inBits(first, 6));
                } else {
                    return null;
                }
            }
            start = end;
        }
        return text.toString();
    }

    /** Tries all rows of modes in their order. */
    private static String bestWritten(String data) {
        String best = null;
        int all = (int) Math.pow(3, data.length());
        for (int n = 0; n < all; n++) {
            String modes = Integer.toString(n, 3);
            String text = written(data, "0".repeat(data.length() - modes.length()) + modes);
            if (text != null && (best == null || text.length() < best.length())) {
                best = text;
            }
        }
        return best;
    }

    private static void segments() {
        CHECK.begin("promise 12: segments of squares");
        Random random = new Random(8);
        String[] kinds = {"0123456789", "ABC$%*+-./: ", "abc\0\377", "0A", "01a"};
        for (int i = 0; i < 60; i++) {
            StringBuilder data = new StringBuilder();
            for (int part = 0; part < 2; part++) {
                data.append(Houses.some(random, kinds[random.nextInt(kinds.length)], 1 + random.nextInt(5)));
            }
            LabelHouse house = withSymbol("1,0," + i % 8, data.toString());
            StringBuilder due = new StringBuilder(bestWritten(data.toString()));
            // four bits 0, a whole byte, then 236 and 17 in turn
            due.append("0000");
            due.append("0".repeat((8 - due.length() % 8) % 8));
            for (int filler = 236; due.length() < 152; filler ^= 236 ^ 17) {
                due.append(inBits(filler, 8));
            }
            CHECK.due("the bits of " + Houses.escaped(data.toString()), bits(house, i % 8).substring(0, 152), due.toString());
        }
        // 32 91 11 120 209 .. at level 1 has the check bytes 196 35 39 ..
        LabelHouse hello = withSymbol("1,1,0", "HELLO WORLD");
        int[] codewords = {32, 91, 11, 120, 209, 114, 220, 77, 67, 64, 236, 17, 236, 17, 236, 17,
            196, 35, 39, 119, 235, 215, 231, 226, 93, 23};
        StringBuilder all = new StringBuilder();
        for (int codeword : codewords) {
            all.append(inBits(codeword, 8));
        }
        CHECK.due("all codewords", bits(hello, 0), all.toString());
        CHECK.end();
    }

    private static int runs(String line) {
        int score = 0;
        for (String run : line.split("(?<=0)(?=1)|(?<=1)(?=0)")) {
            score += run.length() >= 5 ? run.length() - 2 : 0;
        }
        for (int i = 0; i + 11 <= line.length(); i++) {
            String eleven = line.substring(i, i + 11);
            score += eleven.equals("10111010000") || eleven.equals("00001011101") ? 40 : 0;
        }
        return score;
    }

    private static int penalty(LabelHouse house, int side) {
        int score = 0;
        int dark = 0;
        String[] rows = new String[side];
        for (int y = 0; y < side; y++) {
            rows[y] = Houses.row(house, 7 + y).substring(5, 5 + side).replace('#', '1').replace('.', '0');
        }
        for (int i = 0; i < side; i++) {
            StringBuilder column = new StringBuilder();
            for (int j = 0; j < side; j++) {
                column.append(rows[j].charAt(i));
                dark += rows[i].charAt(j) - '0';
            }
            score += runs(rows[i]) + runs(column.toString());
        }
        for (int y = 0; y + 1 < side; y++) {
            for (int x = 0; x + 1 < side; x++) {
                String four = rows[y].substring(x, x + 2) + rows[y + 1].substring(x, x + 2);
                score += four.equals("0000") || four.equals("1111") ? 3 : 0;
            }
        }
        int k = 0;
        while (5 * (k + 1) * side * side <= Math.abs(100 * dark - 50 * side * side)) {
            k++;
        }
        return score + 10 * k;
    }

    private static void masks() {
        CHECK.begin("promise 12: masks of squares");
        Random random = new Random(9);
        for (int i = 0; i < 60; i++) {
            String data = Houses.some(random, "abcdef 0123456789ABC", 1 + random.nextInt(2 * i + 3));
            int level = i % 4;
            LabelHouse free = withSymbol("1," + level, data);
            int side = free.told(4) - 4;
            int best = 0;
            int least = Integer.MAX_VALUE;
            for (int mask = 0; mask < 8; mask++) {
                int score = penalty(withSymbol("1," + level + "," + mask, data), side);
                if (score < least) {
                    least = score;
                    best = mask;
                }
            }
            CHECK.due("scan(1, 1, 0)", free.scan(1, 1, 0), 1);
            CHECK.due("decode(0)", free.decode(0), data.length());
            CHECK.due("the mask of the least penalty", free.reading(2), best);
        }
        CHECK.end();
    }

    private static void scan() {
        CHECK.begin("promise 19: scan");
        LabelHouse house = Houses.printed("^L200,150^O10,20^Q2,0,3^Xone^;^O180,90^Q3,3,4,2^Xtwo^;^O150,100^Q1,1,-1,1^Xthree^;^E");
        CHECK.due("scan(1, 3, 0)", house.scan(1, 3, 0), 3);
        int[][] due = {{10, 20, 2, 1, 0, 0}, {118, 28, 3, 1, 2, 0}, {130, 100, 1, 1, 1, 0}};
        for (int k = 0; k < 3; k++) {
            for (int what = 0; what < 6; what++) {
                CHECK.due("found(" + k + ", " + what + ")", house.found(k, what), due[k][what]);
            }
        }
        CHECK.due("scan(2, 2, 0)", house.scan(2, 2, 0), 1);
        CHECK.due("scan(4, 16, 0)", house.scan(4, 16, 0), 0);
        CHECK.due("scan(3, 16, 9)", house.scan(3, 16, 9), 1);
        int[][] wrong = {{0, 1, 0}, {17, 17, 0}, {2, 1, 0}, {1, 17, 0}, {1, 1, -1}, {1, 1, 501}};
        for (int[] row : wrong) {
            CHECK.badArgument("scan(" + row[0] + ", " + row[1] + ", " + row[2] + ")",
                () -> house.scan(row[0], row[1], row[2]));
        }
        CHECK.due("what was found stays", house.found(0, 2), 3);
        CHECK.due("scan(16, 16, 500) is no wrong call", house.scan(16, 16, 500), 0);
        for (int quarter = 0; quarter < 4; quarter++) {
            LabelHouse turned = Houses.printed("^L60,50^O3,4^Q2,0,3^Xone^;^E");
            turned.turn(quarter);
            CHECK.due("scan of a turned sheet", turned.scan(1, 4, 0), 1);
            int[] x = {3, 4, 15, 4};
            int[] y = {4, 3, 4, 15};
            CHECK.due("x", turned.found(0, 0), x[quarter]);
            CHECK.due("y", turned.found(0, 1), y[quarter]);
            CHECK.due("quarter", turned.found(0, 4), quarter);
        }
        CHECK.end();
    }

    private static void limits() {
        CHECK.begin("promise 19: limits");
        // a light sheet has 99 wrong dots in the corners, 6 between them and one more for a symbol of version 1
        LabelHouse one = Houses.printed("^L21,21^E");
        CHECK.due("scan(1, 1, 105)", one.scan(1, 1, 105), 0);
        CHECK.due("scan(1, 1, 106)", one.scan(1, 1, 106), 1);
        int[] first = {0, 0, 1, 1, 0, 106};
        for (int what = 0; what < 6; what++) {
            CHECK.due("found(0, " + what + ")", one.found(0, what), first[what]);
        }
        LabelHouse most = Houses.printed("^L25,35^E");
        CHECK.due("300 places", most.scan(1, 1, 106), 1);
        LabelHouse more = Houses.printed("^L24,39^E");
        CHECK.due("304 places", more.scan(1, 1, 106), -1);
        most.turn(1);
        CHECK.due("304 places of all sizes", most.scan(1, 2, 110), -1);
        CHECK.due("nothing is found then", most.found(0, 0), -1);
        LabelHouse small = Houses.printed("^L20,512^E");
        CHECK.due("no place is on the sheet", small.scan(1, 16, 500), 0);
        LabelHouse spoiled = Houses.printed("^L40,40^O4,4^Q1^Xa^;^E");
        spoiled.spoil(4, 4, 1);
        CHECK.due("one wrong dot, limit 0", spoiled.scan(1, 1, 0), 0);
        CHECK.due("one wrong dot, limit 1", spoiled.scan(1, 1, 1), 1);
        CHECK.due("found(0, 5)", spoiled.found(0, 5), 1);
        // each mark counts: an edge of a corner, a dot between corners, and the lone one
        int[][] marks = {{11, 4}, {4, 11}, {17, 4}, {4, 17}, {12, 10}, {10, 14}, {12, 17}, {24, 4}, {4, 24}};
        for (int[] mark : marks) {
            LabelHouse house = Houses.printed("^L40,40^O4,4^Q1^Xa^;^E");
            house.spoil(mark[0], mark[1], 1);
            CHECK.due("limit 0 at " + mark[0] + ", " + mark[1], house.scan(1, 1, 0), 0);
            house.spoil(mark[0], mark[1], 1);
            house.spoil(20, 20, 1);
            house.spoil(24, 24, 1);
            CHECK.due("other dots are no marks", house.scan(1, 1, 0), 1);
        }
        CHECK.end();
    }

    /** Most wrong dots in one corner: the place must be seen from the others. */
    private static void corners() {
        CHECK.begin("promise 19: corners with many wrong dots");
        int[][] corners = {{0, 0}, {14, 0}, {14, 14}, {0, 14}};
        for (int quarter = 0; quarter < 4; quarter++) {
            for (int[] corner : corners) {
                LabelHouse house = Houses.printed("^L30,30^O4,4^Q1,0,2^Xcorner^;^E");
                house.turn(quarter);
                int x = house.told(2) + corner[0];
                int y = house.told(3) + corner[1];
                // the corner that has no mark of its own is not looked at
                int skipped = (quarter + 2) % 4;
                boolean marked = corner != corners[skipped];
                for (int row = 0; row < 7; row++) {
                    house.spoil(x, y + row, 0b0101010);
                }
                CHECK.due("limit 20", house.scan(1, 1, 20), marked ? 0 : 1);
                CHECK.due("limit 21", house.scan(1, 1, 21), 1);
                CHECK.due("wrong dots", house.found(0, 5), marked ? 21 : 0);
                CHECK.due("quarter", house.found(0, 4), quarter);
            }
            twoCorners(quarter, corners);
        }
        CHECK.end();
    }

    /** Two of the three corners have more than a third of the wrong dots. */
    private static void twoCorners(int quarter, int[][] corners) {
        for (int right = 0; right < 4; right++) {
            LabelHouse house = Houses.printed("^L30,30^O4,4^Q1,0,2^Xcorner^;^E");
            house.turn(quarter);
            int x = house.told(2);
            int y = house.told(3);
            int skipped = (quarter + 2) % 4;
            for (int c = 0; c < 4; c++) {
                for (int row = 0; row < 5; row++) {
                    house.spoil(x + corners[c][0], y + corners[c][1] + row + 1, c == right || c == skipped ? 0 : 0b10100);
                }
            }
            int wrong = right == skipped ? 30 : 20;
            CHECK.due("limit " + (wrong - 1), house.scan(1, 1, wrong - 1), 0);
            CHECK.due("limit " + wrong, house.scan(1, 1, wrong), 1);
            CHECK.due("wrong dots", house.found(0, 5), wrong);
        }
    }

    private static void leaders() {
        CHECK.begin("promise 19: places that lead");
        LabelHouse house = Houses.printed("^L90,45^O2,3^Q2,0^Xa^;^O46,1^Q2,0^Xb^;^E");
        house.spoil(2, 3, 1);
        // near each symbol others can stand with so many wrong dots, but they do not lead
        int places = house.scan(2, 2, 200);
        CHECK.due("found", places, 2);
        CHECK.due("the first by y", house.found(0, 0), 46);
        CHECK.due("without wrong dots", house.found(0, 5), 0);
        CHECK.due("the second", house.found(1, 0), 2);
        CHECK.due("with one", house.found(1, 5), 1);
        // of two with as many wrong dots the one that comes before the other leads
        LabelHouse light = Houses.printed("^L22,21^E");
        CHECK.due("scan(1, 1, 106)", light.scan(1, 1, 106), 1);
        CHECK.due("x", light.found(0, 0), 0);
        // a small symbol in the midst of a large one
        LabelHouse within = Houses.printed("^L100,100^O2,2^Q2,0,0^X" + "a".repeat(100)
            + "^;^O43,47^F23,23,99^;^R^O43,47^F23,23,99^;^O44,48^Q1,0,0^Xb^;^E");
        CHECK.due("scan(1, 2, 0)", within.scan(1, 2, 0), 1);
        CHECK.due("the first one leads", within.found(0, 2), 2);
        within.spoil(2, 2, 1);
        CHECK.due("scan(1, 2, 1)", within.scan(1, 2, 1), 1);
        CHECK.due("the one with fewer wrong dots leads", within.found(0, 2), 1);
        LabelHouse beside = Houses.printed("^L42,21^O0^Q1^Xa^;^O21^Q1^Xb^;^E");
        CHECK.due("side by side they have no dot in common", beside.scan(1, 1, 0), 2);
        CHECK.end();
    }

    private static void found() {
        CHECK.begin("promise 20: found");
        LabelHouse house = withSymbol("16,0,1,0", "a");
        CHECK.due("a symbol that is not whole", house.scan(1, 16, 0), 0);
        LabelHouse large = Houses.printed("^L400,400^O40,50^Q16,0,1^Xa^;^E");
        CHECK.due("scan(16, 16, 0)", large.scan(16, 16, 0), 1);
        int[] due = {40, 50, 16, 1, 0, 0};
        for (int what = 0; what < 6; what++) {
            CHECK.due("found(0, " + what + ")", large.found(0, what), due[what]);
            CHECK.due("found(1, " + what + ")", large.found(1, what), -1);
            CHECK.due("found(-1, " + what + ")", large.found(-1, what), -1);
        }
        CHECK.badArgument("found(0, 6)", () -> large.found(0, 6));
        CHECK.badArgument("found(0, -1)", () -> large.found(0, -1));
        CHECK.badArgument("found(9, 6)", () -> large.found(9, 6));
        CHECK.end();
    }

    private static void decode() {
        CHECK.begin("promise 21: decode");
        Random random = new Random(10);
        String[] kinds = {"0123456789", SIGNS, "abc\0\377\200^_", "0A", "01a"};
        for (int i = 0; i < 24; i++) {
            StringBuilder text = new StringBuilder();
            for (int part = 0; part < 4; part++) {
                text.append(Houses.some(random, kinds[random.nextInt(kinds.length)], 1 + random.nextInt(1 + 2 * i)));
            }
            String data = text.toString();
            int level = i % 4;
            LabelHouse house = Houses.printed("^L200,200^O150,150^Q" + (1 + i % 2) + "," + level + "," + i % 8 + ",2^X"
                + Houses.escaped(data) + "^;^E");
            house.turn(i / 4 % 4);
            CHECK.due("scan(1, 2, 0)", house.scan(1, 2, 0), 1);
            CHECK.due("decode(0)", house.decode(0), data.length());
            CHECK.due("bytes", Houses.got(house, data.length()), data);
            CHECK.due("level", house.reading(1), level);
            CHECK.due("mask", house.reading(2), i % 8);
            CHECK.outOfBounds("decode(1)", () -> house.decode(1));
            CHECK.outOfBounds("decode(-1)", () -> house.decode(-1));
            CHECK.due("a call that throws changes nothing", house.reading(0), 0);
        }
        // a module is dark if more than half of its dots are; a dark one at (20, 20) of mask 1
        LabelHouse half = Houses.printed("^L60,60^O4,4^Q2,1,1^Xhalf^;^E");
        half.scan(2, 2, 0);
        boolean dark = Houses.dark(half, 44, 44);
        half.spoil(44, 44, 3);
        half.decode(0);
        CHECK.due("half of the dots", half.reading(3), dark ? 1 : 0);
        half.spoil(44, 45, dark ? 3 : 1);
        half.decode(0);
        CHECK.due("more than half", half.reading(3), 1);
        CHECK.end();
    }

    /** Turns modules of the first codewords of a symbol of version 1 over, at (4, 4) with modules of one dot. */
    private static LabelHouse withWrong(int level, int wrong) {
        LabelHouse house = Houses.printed("^L40,40^O4,4^Q1," + level + ",0^Xabc^;^E");
        house.scan(1, 1, 0);
        int[] x = {20, 20, 20, 18, 18, 18, 16, 16, 16, 14, 14, 14};
        int[] y = {20, 16, 12, 12, 16, 20, 20, 16, 12, 12, 16, 20};
        for (int i = 0; i < wrong; i++) {
            house.spoil(4 + x[i], 4 + y[i], 1);
        }
        return house;
    }

    private static void mending() {
        CHECK.begin("promise 21: codewords that are put right");
        int[] most = {2, 4, 6, 8};
        for (int level = 0; level < 4; level++) {
            for (int wrong = 0; wrong <= most[level] + 1; wrong++) {
                LabelHouse house = withWrong(level, wrong);
                boolean right = wrong <= most[level];
                CHECK.due("level " + level + " with " + wrong, house.decode(0), right ? 3 : -1);
                CHECK.due("put right", house.reading(3), right ? wrong : -1);
                CHECK.due("the fault", house.reading(6), right ? 0 : 2);
                CHECK.due("bytes", house.got(0), right ? 0x636261 : 0);
            }
        }
        // versions 2, 3 and 4 of level 0 have one block, too
        int[] sizes = {20, 40, 70};
        int[] mostOf = {4, 7, 10};
        for (int i = 0; i < 3; i++) {
            LabelHouse house = Houses.printed("^L40,40^Q1,0,3^X" + "a".repeat(sizes[i]) + "^;^E");
            house.scan(1, 1, 0);
            CHECK.due("version", house.found(0, 3), i + 2);
            int side = 25 + 4 * i;
            for (int wrong = 1; wrong <= mostOf[i] + 1; wrong++) {
                // a codeword has four rows of the last pair of columns, or of the last but one
                int inPair = (side - 9) / 4;
                int x = side - 1 - 2 * ((wrong - 1) / inPair);
                house.spoil(x, side - 1 - 4 * ((wrong - 1) % inPair), 1);
                boolean right = wrong <= mostOf[i];
                CHECK.due("version " + (i + 2) + " with " + wrong, house.decode(0), right ? sizes[i] : -1);
                CHECK.due("put right", house.reading(3), right ? wrong : -1);
            }
        }
        CHECK.end();
    }

    /** A house with the symbol "abc" whose form has so many wrong dots in its two copies. */
    private static LabelHouse withForm(int first, int second) {
        LabelHouse house = Houses.printed("^L40,40^O4,4^Q1,3,5^Xabc^;^E");
        house.scan(1, 1, 0);
        int[] x = {8, 8, 8, 8, 8};
        for (int i = 0; i < first; i++) {
            house.spoil(4 + x[i], 4 + i, 1);
        }
        for (int i = 0; i < second; i++) {
            house.spoil(4 + 20 - i, 4 + 8, 1);
        }
        return house;
    }

    private static void faults() {
        CHECK.begin("promise 21: faults");
        CHECK.due("three wrong in the first form", withForm(3, 5).decode(0), 3);
        CHECK.due("four wrong in the first form", withForm(4, 3).decode(0), 3);
        LabelHouse none = withForm(4, 4);
        CHECK.due("decode(0)", none.decode(0), -1);
        CHECK.due("the fault", none.reading(6), 1);
        CHECK.due("nothing is read", none.reading(0), -1);
        CHECK.due("nothing is got", none.got(0), 0);
        none.bars(0, 0, false);
        CHECK.due("bars() leaves the fault alone", none.reading(6), 1);
        none.spoil(4 + 20, 4 + 8, 1);
        CHECK.due("by the sheet as it is now", none.decode(0), 3);
        CHECK.due("no fault", none.reading(6), 0);
        CHECK.end();
    }

    private static void reading() {
        CHECK.begin("promise 23: reading of squares");
        LabelHouse house = withSymbol("2,2,6", "abcdefgh12345678901234ABCDEFGHIJKLMNOP");
        house.scan(2, 2, 0);
        house.decode(0);
        int[] due = {0, 2, 6, 0, 3, -1, 0};
        for (int what = 0; what < 7; what++) {
            CHECK.due("reading(" + what + ")", house.reading(what), due[what]);
        }
        CHECK.badArgument("reading(7)", () -> house.reading(7));
        house.turn(1);
        house.print(0);
        CHECK.due("it stays", house.reading(2), 6);
        CHECK.end();
    }
}
