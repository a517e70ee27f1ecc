import java.util.Random;

/** Promises 21, 23 and 24: symbols with random bits, spoiled, read by the class and by the document alone. */
public final class BitsTest {
    private static final Check CHECK = new Check();
    private static final int[] VERSIONS = {1, 1, 2, 3, 4, 5, 7, 9, 10, 14, 26, 27};

    public static void main(String[] args) {
        CHECK.test("promises 21, 23, 24: any bits", () -> compare(1, 600, false));
        CHECK.test("promises 21, 23, 24: segments as they ought to be, with any bits behind them", () -> compare(2, 600, true));
        CHECK.exit();
    }

    private static void compare(int seed, int times, boolean right) {
        Random random = new Random(seed);
        for (int i = 0; i < times; i++) {
            int version = VERSIONS[random.nextInt(VERSIONS.length)];
            int level = random.nextInt(4);
            int mask = random.nextInt(8);
            Bits bits = new Bits(version);
            int room = 8 * Symbol.holds(version, level);
            for (int k = random.nextInt(5); k > 0; k--) {
                segment(random, bits, right);
            }
            while (bits.length() < room) {
                bits.put(random.nextInt(), 7);
            }
            String all = bits.toString().substring(0, room);
            Symbol symbol = Symbol.of(version, level, mask, all);
            int wrong = 0;
            for (int block = 0; block < Symbol.blockCount(version, level); block++) {
                wrong += spoil(random, symbol, block);
            }
            due(symbol.found(), Bits.told(all, version), level, mask, wrong);
        }
    }

    private static void segment(Random random, Bits bits, boolean right) {
        int count = random.nextInt(random.nextInt(3) == 0 ? 60 : 8);
        switch (random.nextInt(right ? 3 : 4)) {
            case 0 -> bits.digits(Houses.some(random, "0123456789", count));
            case 1 -> bits.signs(Houses.some(random, Bits.SIGNS, count));
            case 2 -> bits.bytes(Houses.some(random, "ab\0\u00ff0", count));
            default -> bits.head(random.nextInt(3), random.nextInt(256)).put(random.nextInt(), random.nextInt(30));
        }
    }

    /** Spoils codewords of a block, no more than can be put right; answers how many. */
    private static int spoil(Random random, Symbol symbol, int block) {
        int count = random.nextInt(Symbol.mends(symbol.version, symbol.level) + 1);
        int all = symbol.codewordsOf(block);
        int from = random.nextInt(all);
        for (int i = 0; i < count; i++) {
            symbol.spoilCodeword(block, (from + i) % all, 1 + random.nextInt(255));
        }
        return count;
    }

    private static void due(LabelHouse house, String due, int level, int mask, int wrong) {
        int size = house.decode(0);
        if (due.startsWith("fault")) {
            CHECK.due("decode(0)", size, LabelHouse.NONE);
            CHECK.due("its fault", "fault " + house.reading(6), due);
            CHECK.due("reading(0)", house.reading(0), LabelHouse.NONE);
            CHECK.due("got(0)", house.got(0), 0);
            return;
        }
        CHECK.due("reading", house.reading(4) + " segments: " + Houses.got(house, Math.max(size, 0)), due);
        CHECK.due("reading(6)", house.reading(6), 0);
        CHECK.due("level", house.reading(1), level);
        CHECK.due("mask", house.reading(2), mask);
        CHECK.due("codewords put right", house.reading(3), wrong);
    }
}
