import java.util.Random;

/** Square symbols, promises 12, 21, 23 and 24, sentence by sentence: what fits, what is read and what is not. */
public final class EdgeSquareTest {
    private static final Check CHECK = new Check();
    private static final int NONE = LabelHouse.NONE;
    private static final int LEAST = Integer.MIN_VALUE;
    private static final int MOST = Integer.MAX_VALUE;

    public static void main(String[] args) {
        fits();
        fillers();
        divisions();
        masks();
        versions();
        forms();
        mending();
        modes();
        ends();
        numbers();
        many();
        halves();
        places();
        reading();
        got();
        CHECK.exit();
    }

    /** A house with a symbol of such data at (0, 0), one dot a module. */
    private static LabelHouse printed(String data, int level, int mask) {
        return Houses.printed("^L90,90^Q1," + level + "," + mask + "^X" + Houses.escaped(data) + "^;^E");
    }

    private static int versionOf(LabelHouse house) {
        return (house.told(4) + 1 - 17) / 4;
    }

    private static int version(String data, int level) {
        return versionOf(printed(data, level, 0));
    }

    /** All modules as they are due; the version is the least that has room for the bits. */
    private static void due(String data, int level, int mask) {
        int version = 1;
        while (Bits.best(data, version).length() > 8 * Symbol.holds(version, level)) {
            version++;
        }
        LabelHouse house = printed(data, level, mask);
        CHECK.due("the version of " + Houses.escaped(data), versionOf(house), version);
        Symbol symbol = Symbol.of(version, level, mask, Bits.best(data, version).toString());
        StringBuilder text = new StringBuilder();
        for (int y = 0; y < symbol.side; y++) {
            text.append(y == 0 ? "" : " ").append(Houses.row(house, y), 0, symbol.side);
        }
        CHECK.due("the modules of " + Houses.escaped(data), text.toString(), symbol.rows());
    }

    private static void fits() {
        for (int l = 0; l < 4; l++) {
            int level = l;
            CHECK.test("squares: data fits up to the last bit of a version, level " + level, () -> {
                String[] kinds = {"7", "A", "a"};
                for (int mode = 0; mode < 3; mode++) {
                    for (int version = 1; version < 15; version++) {
                        int size = 0;
                        while (new Bits(version).cost(mode, size + 1) <= 8 * Symbol.holds(version, level)) {
                            size++;
                        }
                        // such data is one segment, and an order has no more than 200 bytes of it
                        if (size < 200) {
                            CHECK.due(size + " bytes of mode " + mode, version(kinds[mode].repeat(size), level), version);
                            CHECK.due((size + 1) + " bytes of mode " + mode, version(kinds[mode].repeat(size + 1), level), version + 1);
                        }
                    }
                }
            });
        }
        CHECK.test("squares: 200 bytes fit at each level", () -> {
            for (int level = 0; level < 4; level++) {
                due("a".repeat(200), level, level);
                due("\377".repeat(200), level, level + 4);
            }
        });
        CHECK.test("squares: one byte, of each mode and the first and last of each", () -> {
            for (String data : new String[] {"0", "9", "A", "Z", " ", ":", "$", "/", ";", "a", "\0", "\377", "@", "[", "#", "_", "^"}) {
                due(data, 0, 0);
            }
        });
    }

    private static void fillers() {
        CHECK.test("squares: behind the segments come four bits 0, or as many as there is room for", () -> {
            // 148, 149, 150, 151 and 152 bits of 152
            String[] texts = {"a".repeat(17), "a".repeat(12) + "12345678", "a".repeat(13) + "123456", "1".repeat(41), "a".repeat(14) + "1234"};
            for (int i = 0; i < texts.length; i++) {
                CHECK.due("bits", Bits.best(texts[i], 1).length(), 148 + i);
                due(texts[i], 0, i);
            }
            CHECK.due("one more", version("a".repeat(15) + "1234", 0), 2);
        });
        CHECK.test("squares: bits 0 up to a whole byte, then 236, 17, 236 and so on", () -> {
            for (int digits = 1; digits <= 40; digits++) {
                due("5".repeat(digits), 0, digits % 8);
            }
            due("a".repeat(16), 0, 0);
            due("a".repeat(15), 0, 0);
        });
        CHECK.test("squares: modules that are left over have 0 before the mask turns them", () -> {
            // versions 2 to 6 have seven, 14 has three
            for (int size : new int[] {20, 40, 70, 100, 120}) {
                for (int mask = 0; mask < 8; mask++) {
                    due("a".repeat(size), 0, mask);
                }
            }
            due("a".repeat(190), 3, 5);
        });
    }

    private static void divisions() {
        CHECK.test("squares: the fewest bits, and of these the first modes, also where a count takes more bits from version 10 on", () -> {
            Random random = new Random(21);
            String[] kinds = {"0123456789", Bits.SIGNS, "abc\0\377", "0A", "01a", "Aa"};
            for (int i = 0; i < 160; i++) {
                StringBuilder data = new StringBuilder();
                int most = i % 4 == 0 ? 190 : i % 4 == 1 ? 60 : 25;
                while (data.length() < most && (data.length() == 0 || random.nextInt(8) > 0)) {
                    data.append(Houses.some(random, kinds[random.nextInt(kinds.length)], 1 + random.nextInt(1 + most / 4)));
                }
                data.setLength(Math.min(data.length(), 200));
                due(data.toString(), i % 4, i % 8);
            }
        });
        CHECK.test("squares: one bit tells which division has fewer, also from version 10 on", () -> {
            // seven digits behind or before an even number of signs take one bit more as digits there
            for (int digits = 5; digits <= 9; digits++) {
                for (int more = 0; more < 2; more++) {
                    String number = "1234567890".substring(0, digits);
                    due("A".repeat(150 + more) + number, 3, 0);
                    due(number + "A".repeat(150 + more), 3, 1);
                    due("a".repeat(100) + number + "AB".repeat(10) + "C".repeat(more), 3, 2);
                    due("a".repeat(100) + "AB".repeat(10) + "C".repeat(more) + number, 3, 3);
                    due("a".repeat(140 + more) + number, 2, 4);
                    due("A".repeat(12 + more) + number, 0, 5);
                }
            }
        });
        CHECK.test("squares: a segment of a mode pays from a number of bytes on, not before", () -> {
            for (int digits = 1; digits <= 9; digits++) {
                due("abc" + "1".repeat(digits), 0, 0);
                due("1".repeat(digits) + "abc", 0, 0);
                due("abc" + "1".repeat(digits) + "abc", 0, 0);
                due("ABC" + "1".repeat(digits) + "ABC", 0, 0);
                due("abc" + "A".repeat(digits) + "abc", 0, 0);
                due("a" + "A".repeat(digits) + "1".repeat(digits), 0, 0);
            }
        });
    }

    private static void masks() {
        CHECK.test("squares: mask -1 is the one with the least penalty, of several such the least number", () -> {
            int ties = 0;
            Random random = new Random(22);
            for (int i = 0; i < 250; i++) {
                String data = Houses.some(random, "ABCDEFGHIJKLMNOPQRSTUVWXYZ0123456789", 1 + i % 11);
                int best = 0;
                int least = MOST;
                int same = 0;
                for (int mask = 0; mask < 8; mask++) {
                    int score = Symbol.of(1, 0, mask, Bits.best(data, 1).toString()).penalty();
                    same = score == least ? same + 1 : score < least ? 0 : same;
                    best = score < least ? mask : best;
                    least = Math.min(least, score);
                }
                ties += same > 0 ? 1 : 0;
                Symbol symbol = Symbol.of(1, 0, best, Bits.best(data, 1).toString());
                LabelHouse house = Houses.printed("^L21,21^Q1,0^X" + data + "^;^E");
                CHECK.due("the symbol of " + data, Houses.sheet(house), symbol.rows());
            }
            CHECK.isTrue("some had two masks with the least penalty", ties > 0);
        });
        CHECK.test("squares: the share of dark modules tells, ten for each five hundredths", () -> {
            String[] texts = {"TTTTTTTTTTTT", "AGA", "NNNNNNNNNN", "HHHHHHHHHH", "UUUUU", "0000", "JKNYUXGV", "PPPPPPPPPP", "DDDDDDDDDDD",
                "867837326109", "65783738729462", "uk", "UTPSA", "441259", "juo", "FBHGHL", "sqqs", "pwc", "UWFPX"};
            int[] levels = {1, 3, 1, 1, 2, 2, 2, 0, 2, 1, 2, 2, 2, 1, 1, 1, 2, 2, 2};
            int[] masks = {2, 0, 0, 2, 4, 6, 7, 3, 6, 7, 2, 6, 0, 6, 6, 4, 4, 0, 6};
            for (int i = 0; i < texts.length; i++) {
                Symbol symbol = Symbol.of(1, levels[i], masks[i], Bits.best(texts[i], 1).toString());
                LabelHouse house = Houses.printed("^L21,21^Q1," + levels[i] + "^X" + texts[i] + "^;^E");
                CHECK.due("the symbol of " + texts[i], Houses.sheet(house), symbol.rows());
            }
        });
        CHECK.test("squares: masks 0 to 7 are as they are told", () -> {
            for (int mask = 0; mask < 8; mask++) {
                due("masks of a symbol of version four or more, with squares within", 1, mask);
            }
        });
    }

    /** A symbol that is full of bytes, as many as can be light ones, for an object has 512 calls. */
    private static void whole(int version, int level) {
        int mask = version % 8;
        int[] bytes = Symbol.lightBytes(version, level, mask);
        StringBuilder light = new StringBuilder();
        for (int b : bytes) {
            light.append(new Bits(version).put(b, 8));
        }
        int head = 4 + new Bits(version).countBits(2);
        int size = (8 * bytes.length - head) / 8;
        String all = new Bits(version).head(2, size) + light.substring(head, head + 8 * size);
        LabelHouse house = Symbol.of(version, level, mask, all).found();
        CHECK.due("version", house.found(0, 3), version);
        CHECK.due("decode(0) of version " + version, house.decode(0), size);
        CHECK.due("level", house.reading(1), level);
        CHECK.due("mask", house.reading(2), mask);
        CHECK.due("put right", house.reading(3), 0);
        CHECK.due("segments", house.reading(4), 1);
        for (int i : new int[] {0, Math.max(0, size / 2 - 4), Math.max(0, size - 8)}) {
            long due = 0;
            for (int j = Math.min(7, size - i - 1); j >= 0; j--) {
                due = due << 8 | Integer.parseInt(all.substring(head + 8 * (i + j), head + 8 * (i + j) + 8), 2);
            }
            CHECK.due("got(" + i + ") of version " + version, house.got(i), due);
        }
        CHECK.due("got(size)", house.got(size), 0);
    }

    private static void versions() {
        for (int l = 0; l < 4; l++) {
            int level = l;
            CHECK.test("promise 21: symbols of versions 1 to 40 at level " + level, () -> {
                for (int version = 1; version <= 40; version++) {
                    whole(version, level);
                }
            });
        }
        CHECK.test("squares: a count has as many bits as versions 9, 10, 26 and 27 ask for", () -> {
            for (int version : new int[] {9, 10, 26, 27}) {
                due("digits, version " + version, version, new Bits(version).digits("12345"), "1 segments: 12345");
                due("signs, version " + version, version, new Bits(version).signs("AB"), "1 segments: AB");
                due("bytes, version " + version, version, new Bits(version).bytes("abc"), "1 segments: abc");
            }
        });
    }

    /** How far a word of 15 bits is from the nearest one of all forms. */
    private static int nearest(int word) {
        int least = 15;
        for (int level = 0; level < 4; level++) {
            for (int mask = 0; mask < 8; mask++) {
                least = Math.min(least, Integer.bitCount(word ^ Symbol.formWord(level, mask)));
            }
        }
        return least;
    }

    private static Symbol withForm(int wrongFirst, int wrongSecond) {
        Symbol symbol = Symbol.of(2, 2, 5, new Bits(2).bytes("form").toString());
        for (int i = 0; i < 15; i++) {
            if ((wrongFirst >> i & 1) != 0) {
                symbol.flip(symbol.formPlace(i, false)[0], symbol.formPlace(i, false)[1]);
            }
            if ((wrongSecond >> i & 1) != 0) {
                symbol.flip(symbol.formPlace(i, true)[0], symbol.formPlace(i, true)[1]);
            }
        }
        return symbol;
    }

    /** A house that has found a symbol and whose FORM words, both of them, were spoiled then. */
    private static LabelHouse withForm(Symbol symbol, int wrong) {
        LabelHouse house = symbol.found();
        for (int i = 0; i < 15; i++) {
            for (boolean second : new boolean[] {false, true}) {
                int[] at = symbol.formPlace(i, second);
                house.spoil(at[0], at[1], wrong >> i & 1);
            }
        }
        return house;
    }

    /** A set of so many bits that brings the form's word as far as it can be from all others. */
    private static int wrongBits(int count, int seed) {
        int word = Symbol.formWord(2, 5);
        for (int wrong = seed; wrong < 1 << 15; wrong++) {
            if (Integer.bitCount(wrong) == count && nearest(word ^ wrong) >= Math.min(count, 4)) {
                return wrong;
            }
        }
        return 0;
    }

    private static void forms() {
        CHECK.test("promise 21: the FORM number may differ in up to three of the first fifteen, whatever the second are", () -> {
            for (int count = 0; count <= 3; count++) {
                for (int seed : new int[] {0, 1 << 14, 1000, 12345}) {
                    LabelHouse house = withForm(wrongBits(count, seed), 0x7FFF).found();
                    CHECK.due("decode(0) with " + count, house.decode(0), 4);
                    CHECK.due("level", house.reading(1), 2);
                    CHECK.due("mask", house.reading(2), 5);
                }
            }
        });
        CHECK.test("promise 21: with four wrong ones the second fifteen count, with up to three wrong", () -> {
            for (int count = 0; count <= 3; count++) {
                for (int seed : new int[] {0, 1 << 14, 1000, 12345}) {
                    LabelHouse house = withForm(wrongBits(4, seed), wrongBits(count, seed)).found();
                    CHECK.due("decode(0) with " + count, house.decode(0), 4);
                    CHECK.due("mask", house.reading(2), 5);
                }
            }
        });
        CHECK.test("promise 21: fault 1 is that there is no FORM number in either", () -> {
            LabelHouse house = withForm(wrongBits(4, 0), wrongBits(4, 1000)).found();
            CHECK.due("decode(0)", house.decode(0), NONE);
            CHECK.due("reading(6)", house.reading(6), 1);
        });
        CHECK.test("promise 21: of all 32768 words those that differ in more than three from each form have fault 1", () -> {
            Symbol symbol = Symbol.of(1, 2, 5, new Bits(1).bytes("form").toString());
            LabelHouse house = null;
            int word = Symbol.formWord(2, 5);
            boolean right = true;
            for (int i = 0; i < 32768; i++) {
                // an object has 512 calls, so another one takes over now and then
                if (i % 100 == 0) {
                    house = withForm(symbol, word ^ Symbol.formWord(2, 5));
                }
                house.decode(0);
                right &= (house.reading(6) == 1) == (nearest(word) > 3);
                // the next word differs in one bit
                int bit = Integer.numberOfTrailingZeros(i + 1) % 15;
                word ^= 1 << bit;
                for (boolean second : new boolean[] {false, true}) {
                    int[] at = symbol.formPlace(bit, second);
                    house.spoil(at[0], at[1], 1);
                }
            }
            CHECK.isTrue("all words", right);
        });
        CHECK.test("promise 21: the first fifteen count where both are forms", () -> {
            int other = Symbol.formWord(2, 5) ^ Symbol.formWord(2, 4);
            LabelHouse house = withForm(0, other).found();
            CHECK.due("decode(0)", house.decode(0), 4);
            LabelHouse wrong = withForm(other, 0).found();
            CHECK.due("decode(0) with another mask", wrong.decode(0), NONE);
            CHECK.due("reading(6)", wrong.reading(6), 2);
        });
        CHECK.test("promise 21: each form of a level and a mask is read", () -> {
            for (int level = 0; level < 4; level++) {
                for (int mask = 0; mask < 8; mask++) {
                    LabelHouse house = Symbol.of(1, level, mask, new Bits(1).bytes("abc").toString()).found();
                    CHECK.due("decode(0)", house.decode(0), 3);
                    CHECK.due("level", house.reading(1), level);
                    CHECK.due("mask", house.reading(2), mask);
                }
            }
        });
    }

    /** So many wrong codewords in a block, from one of its places on. */
    private static void spoil(Symbol symbol, int block, int from, int count, Random random) {
        for (int i = 0; i < count; i++) {
            symbol.spoilCodeword(block, (from + i) % symbol.codewordsOf(block), 1 + random.nextInt(255));
        }
    }

    private static void mends(int version, int level) {
        Random random = new Random(version * 4 + level);
        int most = Symbol.mends(version, level);
        int blocks = Symbol.blockCount(version, level);
        String bits = new Bits(version).bytes("mends").toString();
        for (int from : new int[] {0, 3, Symbol.of(version, level, 0, bits).codewordsOf(0) - 2}) {
            Symbol all = Symbol.of(version, level, 6, bits);
            for (int block = 0; block < blocks; block++) {
                spoil(all, block, from, most, random);
            }
            LabelHouse house = all.found();
            CHECK.due("version " + version + ", level " + level + " with " + most + " in each block", house.decode(0), 5);
            CHECK.due("put right", house.reading(3), most * blocks);
            CHECK.due("got", Houses.got(house, 5), "mends");
            for (int block : new int[] {0, blocks - 1}) {
                Symbol one = Symbol.of(version, level, 6, bits);
                spoil(one, block, from, most + 1, random);
                LabelHouse wrong = one.found();
                CHECK.due("with one more in block " + block, wrong.decode(0), NONE);
                CHECK.due("reading(6)", wrong.reading(6), 2);
            }
        }
    }

    private static void mending() {
        for (int v = 1; v <= 3; v++) {
            int version = v;
            CHECK.test("promise 21: a block of version " + version + " differs in no more than (C - r) / 2 places, at each level", () -> {
                for (int level = 0; level < 4; level++) {
                    mends(version, level);
                }
            });
        }
        CHECK.test("promise 21: a block of a larger version differs in no more than C / 2 places, all blocks in as many", () -> {
            int[][] versions = {{4, 0}, {5, 2}, {5, 3}, {7, 0}, {8, 1}, {9, 3}, {10, 0}, {13, 3}, {27, 0}, {14, 2}};
            for (int[] row : versions) {
                mends(row[0], row[1]);
            }
        });
        CHECK.test("promise 21: no wrong codeword, and one of which one or all eight modules are wrong", () -> {
            Symbol symbol = Symbol.of(1, 3, 0, new Bits(1).bytes("abc").toString());
            CHECK.due("none", symbol.found().decode(0), 3);
            for (int bits : new int[] {1, 128, 255}) {
                Symbol wrong = Symbol.of(1, 3, 0, new Bits(1).bytes("abc").toString());
                wrong.spoilCodeword(0, 4, bits);
                LabelHouse house = wrong.found();
                CHECK.due("decode(0)", house.decode(0), 3);
                CHECK.due("put right", house.reading(3), 1);
            }
        });
        CHECK.test("promise 21: fault 2 comes before what the bytes tell, fault 1 before fault 2", () -> {
            Symbol symbol = Symbol.of(1, 0, 0, new Bits(1).put(15, 4).toString());
            spoil(symbol, 0, 0, 4, new Random(1));
            LabelHouse house = symbol.found();
            CHECK.due("decode(0)", house.decode(0), NONE);
            CHECK.due("reading(6)", house.reading(6), 2);
            Symbol form = withForm(wrongBits(4, 0), wrongBits(4, 0));
            spoil(form, 0, 0, 30, new Random(1));
            LabelHouse none = form.found();
            CHECK.due("decode(0)", none.decode(0), NONE);
            CHECK.due("reading(6)", none.reading(6), 1);
        });
        CHECK.test("promise 21: modules that are left over, and wrong marks within the limit, do not count", () -> {
            Symbol symbol = Symbol.of(2, 1, 0, new Bits(2).bytes("abc").toString());
            // the last pair of columns ends at (0, 25 - 9), with seven modules that are left over
            symbol.flip(0, 16);
            symbol.flip(1, 16);
            LabelHouse house = symbol.found();
            CHECK.due("decode(0)", house.decode(0), 3);
            CHECK.due("put right", house.reading(3), 0);
        });
    }

    /** What decode() makes of bits in a symbol of a version and level 0: the bytes, or the fault. */
    private static String read(int version, String bits) {
        LabelHouse house = Symbol.of(version, 0, 2, bits).found();
        int size = house.decode(0);
        if (size == NONE) {
            CHECK.due("nothing is read", house.reading(0), NONE);
            return "fault " + house.reading(6);
        }
        CHECK.due("no fault", house.reading(6), 0);
        return house.reading(4) + " segments: " + Houses.got(house, size);
    }

    private static void due(String what, int version, Bits bits, String want) {
        CHECK.due(what, read(version, bits.toString()), want);
    }

    private static void modes() {
        CHECK.test("promise 21: segments are read up to 0000, and what is behind it does not count", () -> {
            due("nothing at all", 1, new Bits(1).put(0, 4), "0 segments: ");
            due("1111 behind it", 1, new Bits(1).put(0, 4).put(-1, 32), "0 segments: ");
            due("a segment behind it", 1, new Bits(1).bytes("a").put(0, 4).bytes("b"), "1 segments: a");
        });
        CHECK.test("promise 21: no bytes are an answer of 0, not NONE", () -> {
            LabelHouse house = Symbol.of(1, 2, 3, "0000").found();
            CHECK.due("decode(0)", house.decode(0), 0);
            int[] due = {0, 2, 3, 0, 0, NONE, 0};
            for (int what = 0; what < 7; what++) {
                CHECK.due("reading(" + what + ")", house.reading(what), due[what]);
            }
            CHECK.due("got(0)", house.got(0), 0);
        });
        CHECK.test("promise 21: a segment of 0 bytes is one, too, of each mode", () -> {
            due("0 digits", 1, new Bits(1).head(0, 0), "1 segments: ");
            due("0 signs", 1, new Bits(1).head(1, 0), "1 segments: ");
            due("0 bytes", 1, new Bits(1).head(2, 0), "1 segments: ");
            due("between others", 1, new Bits(1).bytes("a").head(0, 0).head(2, 0).bytes("b"), "4 segments: ab");
        });
        CHECK.test("promise 21: two segments of one mode beside each other are read", () ->
            due("two of digits", 1, new Bits(1).digits("1234").digits("5"), "2 segments: 12345"));
        CHECK.test("promise 21: fault 3 is a mode that is none of 0001, 0010, 0100 and 0000", () -> {
            for (int mode = 0; mode < 16; mode++) {
                boolean known = mode == 0 || mode == 1 || mode == 2 || mode == 4;
                due("mode " + mode, 1, new Bits(1).bytes("a").put(mode, 4).put(0, 10), known ? mode == 0 ? "1 segments: a" : "2 segments: a"
                    : "fault 3");
                due("mode " + mode + " first", 1, new Bits(1).put(mode, 4).put(0, 10), known ? (mode == 0 ? 0 : 1) + " segments: "
                    : "fault 3");
            }
        });
    }

    private static void ends() {
        CHECK.test("promise 21: segments end where less than four bits are left, whatever they are", () -> {
            // 149, 150, 151 and 152 bits of 152
            String[] texts = {"12345678", "123456", "", "1234"};
            int[] bytes = {12, 13, 0, 14};
            for (int i = 0; i < 4; i++) {
                Bits bits = i == 2 ? new Bits(1).digits("1".repeat(41)) : new Bits(1).bytes("a".repeat(bytes[i])).digits(texts[i]);
                CHECK.due("bits", bits.length(), 149 + i);
                String all = i == 2 ? "1".repeat(41) : "a".repeat(bytes[i]) + texts[i];
                due("ones behind " + bits.length(), 1, bits.upTo(152, '1'), (i == 2 ? 1 : 2) + " segments: " + all);
            }
        });
        CHECK.test("promise 21: the last four bits are a mode, also without anything behind it", () -> {
            due("0000", 1, new Bits(1).bytes("a".repeat(17)).put(0, 4), "1 segments: " + "a".repeat(17));
            due("0011", 1, new Bits(1).bytes("a".repeat(17)).put(3, 4), "fault 3");
            for (int mode = 0; mode < 3; mode++) {
                due("mode " + mode, 1, new Bits(1).bytes("a".repeat(17)).put(1 << mode, 4), "fault 4");
            }
        });
        CHECK.test("promise 21: fault 4 is that the bits end within the count", () -> {
            // 16 bytes leave 12 bits: a mode and 8 more
            due("enough for a count of 8 bits", 1, new Bits(1).bytes("a".repeat(16)).head(2, 0), "2 segments: " + "a".repeat(16));
            due("one too few for a count of 9 bits", 1, new Bits(1).bytes("a".repeat(16)).put(2, 4).put(0, 8), "fault 4");
            due("two too few for a count of 10 bits", 1, new Bits(1).bytes("a".repeat(16)).put(1, 4).put(0, 8), "fault 4");
            due("with 8 bits more all three are there", 1, new Bits(1).bytes("a".repeat(15)).head(0, 0), "2 segments: " + "a".repeat(15));
        });
        CHECK.test("promise 21: fault 4 is that the bits end within the bytes, of each mode", () -> {
            due("17 bytes of 17", 1, new Bits(1).bytes("a".repeat(17)), "1 segments: " + "a".repeat(17));
            due("18 bytes of 17", 1, new Bits(1).head(2, 18).upTo(152, '0'), "fault 4");
            due("41 digits of 41", 1, new Bits(1).digits("1".repeat(41)), "1 segments: " + "1".repeat(41));
            due("42 digits of 41", 1, new Bits(1).head(0, 42).upTo(152, '0'), "fault 4");
            due("25 signs of 25", 1, new Bits(1).signs("A".repeat(25)), "1 segments: " + "A".repeat(25));
            due("26 signs of 25", 1, new Bits(1).head(1, 26).upTo(152, '0'), "fault 4");
            due("255 bytes", 1, new Bits(1).head(2, 255).upTo(152, '0'), "fault 4");
            due("in the second segment", 1, new Bits(1).bytes("abc").head(2, 14).upTo(152, '0'), "fault 4");
        });
    }

    private static void numbers() {
        CHECK.test("promise 21: fault 5 is a number that is no digits: 1000, 100, 10 or more", () -> {
            int[][] rows = {{3, 10, 999, 1000, 1023}, {2, 7, 99, 100, 127}, {1, 4, 9, 10, 15}};
            for (int[] row : rows) {
                due("the last that is", 1, new Bits(1).head(0, row[0]).put(row[2], row[1]), "1 segments: " + row[2]);
                due("the first that is not", 1, new Bits(1).head(0, row[0]).put(row[3], row[1]), "fault 5");
                due("the greatest", 1, new Bits(1).head(0, row[0]).put(row[4], row[1]), "fault 5");
                due("0", 1, new Bits(1).head(0, row[0]).put(0, row[1]), "1 segments: " + "0".repeat(row[0]));
                due("behind others", 1, new Bits(1).head(0, row[0] + 3).put(123, 10).put(row[3], row[1]), "fault 5");
            }
        });
        CHECK.test("promise 21: fault 5 is a number that is no signs: 2025, 45 or more", () -> {
            due("2024", 1, new Bits(1).head(1, 2).put(2024, 11), "1 segments: ::");
            due("2025", 1, new Bits(1).head(1, 2).put(2025, 11), "fault 5");
            due("2047", 1, new Bits(1).head(1, 2).put(2047, 11), "fault 5");
            due("44", 1, new Bits(1).head(1, 1).put(44, 6), "1 segments: :");
            due("45", 1, new Bits(1).head(1, 1).put(45, 6), "fault 5");
            due("63", 1, new Bits(1).head(1, 1).put(63, 6), "fault 5");
            due("0", 1, new Bits(1).head(1, 3).put(0, 11).put(0, 6), "1 segments: 000");
            due("45 of two", 1, new Bits(1).head(1, 2).put(45, 11), "1 segments: 10");
            due("44 of two", 1, new Bits(1).head(1, 2).put(44, 11), "1 segments: 0:");
        });
        CHECK.test("promise 21: each of the 45 signs and each byte is told by its number", () -> {
            due("the first 24 signs", 1, new Bits(1).signs(Bits.SIGNS.substring(0, 24)), "1 segments: " + Bits.SIGNS.substring(0, 24));
            due("the last 21 signs", 1, new Bits(1).signs(Bits.SIGNS.substring(24)), "1 segments: " + Bits.SIGNS.substring(24));
            StringBuilder all = new StringBuilder();
            for (int b = 0; b < 128; b++) {
                all.append((char) (2 * b + 1));
            }
            due("bytes", 8, new Bits(8).bytes(all.toString()), "1 segments: " + all);
        });
        CHECK.test("promise 21: the fault that is met first counts", () -> {
            due("5 before the bits end", 1, new Bits(1).head(0, 60).put(1000, 10).upTo(152, '0'), "fault 5");
            due("5 before a mode", 1, new Bits(1).head(0, 3).put(1000, 10).put(15, 4), "fault 5");
            due("3 before 5", 1, new Bits(1).put(3, 4).head(0, 3).put(1000, 10), "fault 3");
            due("the bits end before a wrong number", 1, new Bits(1).bytes("a".repeat(15)).put(1, 4).put(3, 10).upTo(152, '1'), "fault 4");
        });
    }

    private static void many() {
        CHECK.test("promise 21: fault 6 is a segment with which there would be more than 3000 bytes, met with its count", () -> {
            due("3001 digits", 10, new Bits(10).head(0, 3001), "fault 6");
            due("4095 digits", 10, new Bits(10).head(0, 4095), "fault 6");
            due("3000 digits, and the bits end", 10, new Bits(10).head(0, 3000), "fault 4");
            due("65535 bytes", 10, new Bits(10).head(2, 65535), "fault 6");
            due("3001 bytes", 10, new Bits(10).head(2, 3001), "fault 6");
            due("3000 bytes, and the bits end", 10, new Bits(10).head(2, 3000), "fault 4");
            due("2047 signs, and the bits end", 10, new Bits(10).head(1, 2047), "fault 4");
        });
        CHECK.test("promise 21: fault 6 counts the segments before", () -> {
            due("1 and 3000", 10, new Bits(10).bytes("a").head(0, 3000), "fault 6");
            due("1 and 2999, and the bits end", 10, new Bits(10).bytes("a").head(0, 2999), "fault 4");
            due("6 before a wrong number", 10, new Bits(10).head(0, 3001).put(1000, 10), "fault 6");
        });
        CHECK.test("promise 21: 3000 bytes are read", () -> {
            String digits = "1234567890".repeat(300);
            LabelHouse house = Symbol.of(25, 0, 2, new Bits(25).digits(digits).toString()).found();
            CHECK.due("decode(0)", house.decode(0), 3000);
            CHECK.due("got(0)", house.got(0), 0x3837_3635_3433_3231L);
            CHECK.due("got(2992)", house.got(2992), 0x3039_3837_3635_3433L);
            CHECK.due("got(2999)", house.got(2999), '0');
            CHECK.due("got(3000)", house.got(3000), 0);
            LabelHouse more = Symbol.of(25, 0, 2, new Bits(25).digits(digits.substring(1)).digits("12").toString()).found();
            CHECK.due("2999 and 2", more.decode(0), NONE);
            CHECK.due("reading(6)", more.reading(6), 6);
            LabelHouse exact = Symbol.of(25, 0, 2, new Bits(25).digits(digits.substring(1)).digits("1").head(0, 0).toString()).found();
            CHECK.due("2999, 1 and 0", exact.decode(0), 3000);
            CHECK.due("reading(4)", exact.reading(4), 3);
        });
    }

    private static void halves() {
        CHECK.test("promise 21: a module is dark if more than half of the dots of its block are, for each m", () -> {
            for (int m = 1; m <= 16; m++) {
                LabelHouse house = Houses.printed("^L350,350^O3,4^Q" + m + ",3,0^Xhalf^;^E");
                house.scan(m, m, 0);
                CHECK.due("decode(0)", house.decode(0), 4);
                // the module (12, 12) of a symbol of version 1 has a bit of a codeword
                int x = 3 + 12 * m;
                int y = 4 + 12 * m;
                boolean dark = Houses.dark(house, x, y);
                int dots = m * m;
                // of a dark one so many dots become light that half are dark, or one more; of a light one the other way round
                int still = dark ? (dots - 1) / 2 : dots / 2;
                spoilSome(house, x, y, m, 0, still);
                house.decode(0);
                CHECK.due("as it was, m " + m, house.reading(3), 0);
                spoilSome(house, x, y, m, still, still + 1);
                house.decode(0);
                CHECK.due("one dot more, m " + m, house.reading(3), 1);
            }
        });
        CHECK.test("promise 21: half of the dots are not more than half", () -> {
            LabelHouse house = Houses.printed("^L60,60^Q2,3,0^Xhalf^;^E");
            house.scan(2, 2, 0);
            for (int x = 10; x < 13; x++) {
                boolean dark = Houses.dark(house, 2 * x, 24);
                house.spoil(2 * x, 24, 3);
                house.decode(0);
                CHECK.due("two of four dots, dark before: " + dark, house.reading(3), dark ? 1 : 0);
                house.spoil(2 * x, 24, 3);
            }
        });
    }

    /** Turns over the dots of a block from one of them on, row by row. */
    private static void spoilSome(LabelHouse house, int x, int y, int m, int from, int to) {
        for (int row = 0; row < m; row++) {
            long bits = 0;
            for (int i = 0; i < m; i++) {
                int dot = row * m + i;
                bits |= dot >= from && dot < to ? 1L << i : 0;
            }
            if (bits != 0) {
                house.spoil(x, y + row, bits);
            }
        }
    }

    private static void places() {
        CHECK.test("promise 21: the symbol at place k, at each quarter and at the sheet's edges", () -> {
            for (int quarter = 0; quarter < 4; quarter++) {
                LabelHouse house = Houses.printed("^L42,42^Q1,0,3^Xfirst^;^O21,21^Q1,1,4^Xsecond^;^E");
                house.turn(quarter);
                CHECK.due("scan(1, 1, 0)", house.scan(1, 1, 0), 2);
                for (int k = 0; k < 2; k++) {
                    CHECK.due("found(" + k + ", 4)", house.found(k, 4), quarter);
                    boolean first = house.found(k, 0) == (quarter == 0 || quarter == 3 ? 0 : 21)
                        && house.found(k, 1) == (quarter < 2 ? 0 : 21);
                    String text = first ? "first" : "second";
                    CHECK.due("decode(" + k + ")", house.decode(k), text.length());
                    CHECK.due("got", Houses.got(house, text.length()), text);
                    CHECK.due("reading(2)", house.reading(2), first ? 3 : 4);
                }
            }
        });
        CHECK.test("promise 21: by the sheet as it is now, not as it was found", () -> {
            LabelHouse house = Houses.printed("^L21,21^Q1,0,3^Xabc^;^E");
            house.scan(1, 1, 0);
            for (int y = 0; y < 21; y++) {
                house.spoil(0, y, house.dots(0, y));
            }
            CHECK.due("a light sheet", house.decode(0), NONE);
            CHECK.isTrue("reading(6)", house.reading(6) > 0);
        });
        CHECK.test("promise 21: refused, a place that there is not, and what was read and its fault stay", () -> {
            LabelHouse house = Houses.printed("^L42,42^Q1,0,3^Xfirst^;^O21,21^Q1,1,4^Xsecond^;^E");
            CHECK.outOfBounds("decode(0) before scan()", () -> house.decode(0));
            house.scan(1, 1, 0);
            house.decode(1);
            for (int k : new int[] {-1, 2, LEAST, MOST}) {
                CHECK.outOfBounds("decode(" + k + ")", () -> house.decode(k));
            }
            CHECK.due("reading(2)", house.reading(2), 4);
            CHECK.due("got(0)", Houses.got(house, 6), "second");
            Symbol wrong = Symbol.of(1, 0, 0, "1111");
            LabelHouse fault = wrong.found();
            fault.decode(0);
            CHECK.outOfBounds("decode(1)", () -> fault.decode(1));
            CHECK.due("reading(6)", fault.reading(6), 3);
        });
        CHECK.test("promise 21: NONE when it has a fault: nothing is read then", () -> {
            LabelHouse house = Houses.printed("^L21,21^Q1,0,3^Xabc^;^E");
            house.scan(1, 1, 0);
            house.decode(0);
            // both forms of fifteen are spoiled
            house.spoil(8, 0, 1);
            house.spoil(8, 1, 1);
            house.spoil(8, 2, 1);
            house.spoil(8, 3, 1);
            house.spoil(17, 8, 15);
            CHECK.due("decode(0)", house.decode(0), NONE);
            for (int what = 0; what < 6; what++) {
                CHECK.due("reading(" + what + ")", house.reading(what), NONE);
            }
            CHECK.due("reading(6)", house.reading(6), 1);
            CHECK.due("got(0)", house.got(0), 0);
            CHECK.due("found(0, 3) stays", house.found(0, 3), 1);
            house.spoil(17, 8, 15);
            CHECK.due("decode(0)", house.decode(0), 3);
            CHECK.due("reading(6)", house.reading(6), 0);
        });
    }

    private static void reading() {
        CHECK.test("promise 23: of a symbol, 0, its level, mask, codewords and segments, and NONE for the way", () -> {
            Symbol symbol = Symbol.of(2, 3, 7, new Bits(2).bytes("ab").digits("1234").toString());
            symbol.spoilCodeword(0, 0, 1);
            symbol.spoilCodeword(0, 30, 128);
            LabelHouse house = symbol.found();
            house.decode(0);
            int[] due = {0, 3, 7, 2, 2, NONE, 0};
            for (int what = 0; what < 7; what++) {
                CHECK.due("reading(" + what + ")", house.reading(what), due[what]);
            }
        });
        CHECK.test("promise 23: refused, another what, whether anything is read or not", () -> {
            LabelHouse house = Houses.printed("^L21,21^Q1,0,3^Xabc^;^E");
            for (int round = 0; round < 2; round++) {
                for (int what : new int[] {-1, 7, LEAST, MOST}) {
                    CHECK.badArgument("reading(" + what + ")", () -> house.reading(what));
                }
                house.scan(1, 1, 0);
                house.decode(0);
            }
        });
        CHECK.test("promise 23: nothing but decode() and bars() changes it", () -> {
            LabelHouse house = Houses.printed("^L21,21^Q1,0,3^Xabc^;^E");
            house.scan(1, 1, 0);
            house.decode(0);
            house.spoil(0, 0, -1);
            house.turn(1);
            CHECK.due("scan(1, 1, 0)", house.scan(1, 1, 0), 0);
            Houses.read(house, "^L9,9^F^;^E");
            house.print(0);
            Houses.read(house, "^Y");
            house.wipe();
            house.font(0, 1, 1, 1);
            int[] due = {0, 0, 3, 0, 1, NONE, 0};
            for (int what = 0; what < 7; what++) {
                CHECK.due("reading(" + what + ")", house.reading(what), due[what]);
            }
            CHECK.due("got(0)", house.got(0), 0x636261);
        });
        CHECK.test("promise 23: the fault that the last decode() met stays, whatever bars() reads", () -> {
            LabelHouse house = Symbol.of(1, 0, 0, "1111").drawn(200, 40, 0, 0, 1);
            Houses.read(house, "^L9,9^E");
            house.scan(1, 1, 0);
            CHECK.due("decode(0)", house.decode(0), NONE);
            house.bars(0, 0, false);
            CHECK.due("reading(6)", house.reading(6), 3);
            house.turn(0);
            CHECK.due("reading(6) behind turn()", house.reading(6), 3);
        });
    }

    private static void got() {
        CHECK.test("promise 24: eight bytes of a symbol's from byte i on, 0 for each that it has not", () -> {
            LabelHouse house = Symbol.of(1, 0, 0, new Bits(1).bytes("\1\2\3\4\5\6\7\10\377").toString()).found();
            CHECK.due("got(0) before", house.got(0), 0);
            house.decode(0);
            CHECK.due("got(0)", house.got(0), 0x0807_0605_0403_0201L);
            CHECK.due("got(1)", house.got(1), 0xFF08_0706_0504_0302L);
            CHECK.due("got(2)", house.got(2), 0xFF_0807_0605_0403L);
            CHECK.due("got(8)", house.got(8), 255);
            CHECK.due("got(9)", house.got(9), 0);
            CHECK.due("got(-1)", house.got(-1), 0x0706_0504_0302_0100L);
            CHECK.due("got(-7)", house.got(-7), 0x0100_0000_0000_0000L);
            CHECK.due("got(-8)", house.got(-8), 0);
        });
        CHECK.test("promise 24: i may be any number, and none comes round", () -> {
            LabelHouse house = Symbol.of(1, 0, 0, new Bits(1).bytes("a".repeat(17)).toString()).found();
            house.decode(0);
            for (int i : new int[] {LEAST, LEAST + 1, LEAST + 7, -9, 17, 3000, MOST - 7, MOST - 6, MOST}) {
                CHECK.due("got(" + i + ")", house.got(i), 0);
            }
        });
        CHECK.test("promise 24: bytes of a longer reading before are not those of a shorter one", () -> {
            LabelHouse house = Houses.printed("^L42,21^Q1,0,3^Xlonger^;^O21^Q1,0,3^Xshort^;^E");
            house.scan(1, 1, 0);
            house.decode(0);
            house.decode(1);
            CHECK.due("got(0)", house.got(0), 0x74_726F_6873L);
            CHECK.due("got(5)", house.got(5), 0);
        });
    }
}
