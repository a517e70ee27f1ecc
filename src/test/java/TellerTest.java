import java.util.Arrays;
import java.util.Random;

/** Promises 22 to 24: random strips, read by the class and by a teller that is written by the document alone. */
public final class TellerTest {
    private static final Check CHECK = new Check();

    public static void main(String[] args) {
        CHECK.test("promise 22: rows of any symbols", () -> compare(1, 1500, 0));
        CHECK.test("promise 22: strips whose widths are not quite right", () -> compare(2, 3000, 8));
        CHECK.test("promise 22: strips of which many widths are not right", () -> compare(3, 3000, 2));
        CHECK.exit();
    }

    private static void compare(int seed, int times, int wrongs) {
        Random random = new Random(seed);
        int read = 0;
        for (int i = 0; i < times; i++) {
            int[] runs = runs(random, wrongs);
            String due = Teller.told(runs);
            read += due.equals("NONE") ? 0 : 1;
            boolean down = random.nextBoolean();
            LabelHouse house = Strips.house(0, runs);
            if (down) {
                house.turn(1);
            }
            int x = down ? 1 : 0;
            int size = house.bars(x, 0, down);
            String got = size == LabelHouse.NONE ? "NONE"
                : house.reading(0) + (house.reading(5) == 1 ? " back: " : " front: ") + Houses.got(house, size);
            CHECK.due(Arrays.toString(runs), got, due);
        }
        CHECK.isTrue("some are read, and some are not", read > times / 20 && read < times);
    }

    /** Strips one behind the other, as far as a sheet has room for; of so many widths about one is wrong. */
    private static int[] runs(Random random, int wrongs) {
        int[] all = {};
        for (int i = random.nextInt(3); i >= 0; i--) {
            int[] strip = strip(random, wrongs == 0 ? 1 + random.nextInt(2) : 2 + random.nextInt(3));
            int from = all.length;
            if (from > 0) {
                // the space between two strips
                from++;
            }
            int[] more = Arrays.copyOf(all, from + strip.length);
            if (from > 0) {
                more[from - 1] = 1 + random.nextInt(20);
            }
            System.arraycopy(random.nextInt(3) == 0 ? Teller.reversed(strip) : strip, 0, more, from, strip.length);
            all = more;
        }
        for (int i = 0; wrongs > 0 && i < all.length; i++) {
            int change = random.nextInt(6 * wrongs) == 0 ? random.nextInt(5) - 2 : random.nextInt(wrongs) == 0 ? random.nextInt(3) - 1 : 0;
            all[i] = Math.max(1, all[i] + change);
        }
        int room = 512;
        int count = 0;
        while (count < all.length && all[count] <= room) {
            room -= all[count];
            count++;
        }
        return Arrays.copyOf(all, count);
    }

    private static int[] strip(Random random, int module) {
        if (random.nextInt(3) == 0) {
            String row = Strips.figureRow(Houses.some(random, "0123456789", 12));
            return Strips.widths(row, module);
        }
        int[] symbols = new int[1 + random.nextInt(8)];
        symbols[0] = 103 + random.nextInt(3);
        for (int i = 1; i < symbols.length; i++) {
            symbols[i] = random.nextInt(3) == 0 ? 96 + random.nextInt(10) : random.nextInt(103);
        }
        return Strips.widths(Strips.row(symbols), module);
    }
}
