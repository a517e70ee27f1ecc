import java.util.ArrayList;
import java.util.List;

/** A square symbol made by the document's words alone, out of bytes of one's own, to be put on a sheet and spoiled. */
final class Symbol {
    private static final String[] CHECKS = {
        "7 10 15 20 26 18 20 24 30 18 20 24 26 30 22 24 28 30 28 28 28 28 30 30 26 28 30 30 30 30 30 30 30 30 30 30 30 30 30 30",
        "10 16 26 18 24 16 18 22 22 26 30 22 22 24 24 28 28 26 26 26 26 28 28 28 28 28 28 28 28 28 28 28 28 28 28 28 28 28 28 28",
        "13 22 18 26 18 24 18 22 20 24 28 26 24 20 30 24 28 28 26 30 28 30 30 30 30 28 30 30 30 30 30 30 30 30 30 30 30 30 30 30",
        "17 28 22 16 22 28 26 26 24 28 24 28 22 24 24 30 28 28 26 28 30 24 30 30 30 30 30 30 30 30 30 30 30 30 30 30 30 30 30 30"};
    private static final String[] COUNTS = {
        "1 1 1 1 1 2 2 2 2 4 4 4 4 4 6 6 6 6 7 8 8 9 9 10 12 12 12 13 14 15 16 17 18 19 19 20 21 22 24 25",
        "1 1 1 2 2 4 4 4 5 5 5 8 9 9 10 10 11 13 14 16 17 17 18 20 21 23 25 26 28 29 31 33 35 37 38 40 43 45 47 49",
        "1 1 2 2 4 4 6 6 8 8 8 10 12 16 12 17 16 18 21 20 23 23 25 27 29 34 34 35 38 40 43 45 48 51 53 56 59 62 65 68",
        "1 1 2 4 4 4 5 6 8 8 11 11 16 16 18 16 19 21 25 25 25 34 30 32 35 37 40 42 45 48 51 54 57 60 63 66 70 74 77 81"};

    final int version;
    final int level;
    final int side;
    final boolean[][] dark;
    private final boolean[][] fixed;
    /** The places of the modules that have the bits of the codewords, in their order, as x and y. */
    private final List<int[]> order = new ArrayList<>();
    /** For each block: which of the codewords its bytes and then its check bytes are. */
    private final List<List<Integer>> blocks = new ArrayList<>();

    Symbol(int version, int level, int mask, int[] bytes) {
        this.version = version;
        this.level = level;
        side = 17 + 4 * version;
        dark = new boolean[side][side];
        fixed = new boolean[side][side];
        fixAll();
        fixForm(formWord(level, mask));
        findOrder();
        int[] codewords = codewords(bytes);
        for (int i = 0; i < order.size(); i++) {
            int[] at = order.get(i);
            boolean bit = i < 8 * codewords.length && (codewords[i / 8] >> (7 - i % 8) & 1) != 0;
            dark[at[1]][at[0]] = bit ^ turns(mask, at[0], at[1]);
        }
    }

    /** A symbol whose bytes begin with bits, 0 and 1, and go on as all do. */
    static Symbol of(int version, int level, int mask, String bits) {
        return new Symbol(version, level, mask, filled(bits, holds(version, level)));
    }

    /** The bytes of bits: four bits 0 or fewer, then up to a whole byte, then 236 and 17. */
    static int[] filled(String bits, int holds) {
        StringBuilder text = new StringBuilder(bits);
        for (int i = 0; i < 4 && text.length() < 8 * holds; i++) {
            text.append('0');
        }
        while (text.length() % 8 != 0) {
            text.append('0');
        }
        int[] bytes = new int[holds];
        int filler = 236;
        for (int i = 0; i < holds; i++) {
            if (8 * i < text.length()) {
                bytes[i] = Integer.parseInt(text.substring(8 * i, 8 * i + 8), 2);
            } else {
                bytes[i] = filler;
                filler = 236 + 17 - filler;
            }
        }
        return bytes;
    }

    static int checks(int version, int level) {
        return Integer.parseInt(CHECKS[level].split(" ")[version - 1]);
    }

    static int blockCount(int version, int level) {
        return Integer.parseInt(COUNTS[level].split(" ")[version - 1]);
    }

    static int codewordCount(int version) {
        int bits = (16 * version + 128) * version + 64;
        int n = version / 7 + 2;
        bits -= version > 1 ? (25 * n - 10) * n - 55 : 0;
        return (bits - (version > 6 ? 36 : 0)) / 8;
    }

    static int holds(int version, int level) {
        return codewordCount(version) - blockCount(version, level) * checks(version, level);
    }

    /** How many wrong codewords of a block can be put right. */
    static int mends(int version, int level) {
        int r = version == 1 ? new int[] {3, 2, 1, 1}[level] : version == 2 && level == 0 ? 2 : version == 3 && level == 0 ? 1 : 0;
        return (checks(version, level) - r) / 2;
    }

    static int formWord(int level, int mask) {
        int number = 8 * new int[] {1, 0, 3, 2}[level] + mask;
        return (number * 1024 + rest(number * 1024, 1335)) ^ 21522;
    }

    private static int rest(int value, int by) {
        int left = value;
        while (Integer.highestOneBit(left) >= Integer.highestOneBit(by)) {
            left ^= by * (Integer.highestOneBit(left) / Integer.highestOneBit(by));
        }
        return left;
    }

    private void fix(int x, int y, boolean isDark) {
        if (x >= 0 && y >= 0 && x < side && y < side) {
            dark[y][x] = isDark;
            fixed[y][x] = true;
        }
    }

    private void around(int x, int y, int most, int light) {
        for (int i = -most; i <= most; i++) {
            for (int j = -most; j <= most; j++) {
                int d = Math.max(Math.abs(i), Math.abs(j));
                fix(x + i, y + j, d != light && d != 4);
            }
        }
    }

    private void fixAll() {
        for (int i = 0; i < side; i++) {
            fix(i, 6, i % 2 == 0);
            fix(6, i, i % 2 == 0);
        }
        around(3, 3, 4, 2);
        around(side - 4, 3, 4, 2);
        around(3, side - 4, 4, 2);
        int n = version / 7 + 2;
        int step = version == 32 ? 26 : 2 * ((4 * version + 2 * n + 1) / (2 * n - 2));
        for (int i = 0; version > 1 && i < n; i++) {
            for (int j = 0; j < n; j++) {
                int x = i == n - 1 ? 6 : side - 7 - i * step;
                int y = j == n - 1 ? 6 : side - 7 - j * step;
                boolean taken = (x == 6 && y == 6) || (x == 6 && y == side - 7) || (x == side - 7 && y == 6);
                if (!taken) {
                    around(x, y, 2, 1);
                }
            }
        }
        fix(8, side - 8, true);
        int word = version * 4096 + rest(version * 4096, 7973);
        for (int i = 0; version > 6 && i < 18; i++) {
            fix(side - 11 + i % 3, i / 3, (word >> i & 1) != 0);
            fix(i / 3, side - 11 + i % 3, (word >> i & 1) != 0);
        }
    }

    /** Where bit i of the first or the second fifteen is. */
    int[] formPlace(int i, boolean second) {
        if (second) {
            return i <= 7 ? new int[] {side - 1 - i, 8} : new int[] {8, side - 15 + i};
        }
        if (i <= 7) {
            return new int[] {8, i <= 5 ? i : i + 1};
        }
        return new int[] {i == 8 ? 7 : 14 - i, 8};
    }

    private void fixForm(int word) {
        for (int i = 0; i < 15; i++) {
            for (boolean second : new boolean[] {false, true}) {
                int[] at = formPlace(i, second);
                fix(at[0], at[1], (word >> i & 1) != 0);
            }
        }
    }

    private void findOrder() {
        boolean up = true;
        for (int right = side - 1; right > 0; right -= 2) {
            right -= right == 6 ? 1 : 0;
            for (int i = 0; i < side; i++) {
                int y = up ? side - 1 - i : i;
                for (int x = right; x >= right - 1; x--) {
                    if (!fixed[y][x]) {
                        order.add(new int[] {x, y});
                    }
                }
            }
            up = !up;
        }
    }

    private static boolean turns(int mask, int x, int y) {
        return switch (mask) {
            case 0 -> (x + y) % 2 == 0;
            case 1 -> y % 2 == 0;
            case 2 -> x % 3 == 0;
            case 3 -> (x + y) % 3 == 0;
            case 4 -> (x / 3 + y / 2) % 2 == 0;
            case 5 -> x * y % 2 + x * y % 3 == 0;
            case 6 -> (x * y % 2 + x * y % 3) % 2 == 0;
            default -> ((x + y) % 2 + x * y % 3) % 2 == 0;
        };
    }

    private static int times(int a, int b) {
        int product = 0;
        for (int i = 7; i >= 0; i--) {
            product = product << 1 ^ ((b >> i & 1) != 0 ? a : 0);
            product ^= product > 255 ? 285 : 0;
        }
        return product;
    }

    /** The rest of the bytes, with as many 0 behind them, by the product of x - 2^i. */
    private static int[] checkBytes(int[] bytes, int count) {
        int[] divisor = new int[count + 1];
        divisor[0] = 1;
        int power = 1;
        for (int i = 0; i < count; i++) {
            for (int j = count; j > 0; j--) {
                divisor[j] ^= times(divisor[j - 1], power);
            }
            power = times(power, 2);
        }
        int[] left = java.util.Arrays.copyOf(bytes, bytes.length + count);
        for (int i = 0; i < bytes.length; i++) {
            int top = left[i];
            for (int j = 0; j <= count; j++) {
                left[i + j] ^= times(top, divisor[j]);
            }
        }
        return java.util.Arrays.copyOfRange(left, bytes.length, left.length);
    }

    private int[] codewords(int[] bytes) {
        int count = blockCount(version, level);
        int checks = checks(version, level);
        List<int[]> data = new ArrayList<>();
        List<int[]> behind = new ArrayList<>();
        int from = 0;
        for (int b = 0; b < count; b++) {
            int size = bytes.length / count + (b >= count - bytes.length % count ? 1 : 0);
            data.add(java.util.Arrays.copyOfRange(bytes, from, from + size));
            behind.add(checkBytes(data.get(b), checks));
            blocks.add(new ArrayList<>());
            from += size;
        }
        int[] all = new int[codewordCount(version)];
        int at = 0;
        for (List<int[]> rows : List.of(data, behind)) {
            for (int i = 0; i <= bytes.length / count || i < checks; i++) {
                for (int b = 0; b < count; b++) {
                    if (i < rows.get(b).length) {
                        blocks.get(b).add(at);
                        all[at++] = rows.get(b)[i];
                    }
                }
            }
        }
        return all;
    }

    /** The penalty of these modules. */
    int penalty() {
        int score = 0;
        int dark01 = 0;
        for (int i = 0; i < side; i++) {
            StringBuilder row = new StringBuilder();
            StringBuilder column = new StringBuilder();
            for (int j = 0; j < side; j++) {
                row.append(dark[i][j] ? '1' : '0');
                column.append(dark[j][i] ? '1' : '0');
                dark01 += dark[i][j] ? 1 : 0;
                boolean square = i + 1 < side && j + 1 < side && dark[i][j] == dark[i + 1][j] && dark[i][j] == dark[i][j + 1]
                    && dark[i][j] == dark[i + 1][j + 1];
                score += square ? 3 : 0;
            }
            score += linePenalty(row.toString()) + linePenalty(column.toString());
        }
        int k = 0;
        while (5 * (k + 1) * side * side <= Math.abs(100 * dark01 - 50 * side * side)) {
            k++;
        }
        return score + 10 * k;
    }

    private static int linePenalty(String line) {
        int score = 0;
        for (String run : line.split("(?<=0)(?=1)|(?<=1)(?=0)")) {
            score += run.length() >= 5 ? 3 + run.length() - 5 : 0;
        }
        for (int i = 0; i + 11 <= line.length(); i++) {
            score += line.startsWith("10111010000", i) || line.startsWith("00001011101", i) ? 40 : 0;
        }
        return score;
    }

    /** Bytes with which all modules that are not fixed, but those of check bytes, are light. */
    static int[] lightBytes(int version, int level, int mask) {
        int[] bytes = new int[holds(version, level)];
        Symbol symbol = new Symbol(version, level, mask, bytes);
        int at = 0;
        for (List<Integer> block : symbol.blocks) {
            for (int i = 0; i < block.size() - checks(version, level); i++) {
                for (int bit = 0; bit < 8; bit++) {
                    int[] place = symbol.order.get(8 * block.get(i) + bit);
                    bytes[at] |= turns(mask, place[0], place[1]) ? 128 >> bit : 0;
                }
                at++;
            }
        }
        return bytes;
    }

    void flip(int x, int y) {
        dark[y][x] = !dark[y][x];
    }

    /** Turns over some of the modules of a codeword of a block, the check bytes behind the others. */
    void spoilCodeword(int block, int i, int bits) {
        int codeword = blocks.get(block).get(i);
        for (int bit = 0; bit < 8; bit++) {
            if ((bits >> (7 - bit) & 1) != 0) {
                int[] at = order.get(8 * codeword + bit);
                flip(at[0], at[1]);
            }
        }
    }

    int codewordsOf(int block) {
        return blocks.get(block).size();
    }

    /** A house with this symbol alone at (x, y) of a sheet, m dots a module, unless m is too large for that. */
    LabelHouse drawn(int width, int height, int x, int y, int m) {
        LabelHouse house = Houses.printed("^L" + width + "," + height + "^E");
        for (int row = 0; row < side * m; row++) {
            long bits = 0;
            for (int i = 0; i < side * m; i++) {
                bits |= dark[row / m][i / m] ? 1L << (i % 64) : 0;
                boolean whole = i % 64 == 63 || i == side * m - 1;
                // a call less for words that are light: an object has 512
                if (whole && bits != 0) {
                    house.spoil(x + i / 64 * 64, y + row, bits);
                }
                bits = whole ? 0 : bits;
            }
        }
        return house;
    }

    /** A house that has found this symbol on a sheet of its size, with modules of one dot. */
    LabelHouse found() {
        LabelHouse house = drawn(side, side, 0, 0, 1);
        house.scan(1, 1, 0);
        return house;
    }

    String rows() {
        StringBuilder text = new StringBuilder();
        for (int y = 0; y < side; y++) {
            text.append(y == 0 ? "" : " ");
            for (int x = 0; x < side; x++) {
                text.append(dark[y][x] ? '#' : '.');
            }
        }
        return text.toString();
    }
}
