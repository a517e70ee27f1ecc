import java.util.Random;

/** What several tests do with a house. */
final class Houses {
    private Houses() {
    }

    /** Feeds a text whose characters are bytes. */
    static void feed(LabelHouse house, String text) {
        for (int i = 0; i < text.length(); i += 8) {
            int n = Math.min(8, text.length() - i);
            long bytes = 0;
            for (int j = 0; j < n; j++) {
                bytes |= (long) (text.charAt(i + j) & 255) << (8 * j);
            }
            house.feed(n, bytes);
        }
    }

    /** Reads a text as the whole tape. */
    static int read(LabelHouse house, String text) {
        house.wipe();
        feed(house, text);
        return house.read();
    }

    /** A new house that has read a text and printed its first label. */
    static LabelHouse printed(String text) {
        LabelHouse house = new LabelHouse();
        read(house, text);
        house.print(0);
        return house;
    }

    static String data(LabelHouse house, int k) {
        StringBuilder text = new StringBuilder();
        for (int i = 0; i < house.order(k, 8); i++) {
            text.append((char) (house.data(k, i) & 255));
        }
        return text.toString();
    }

    static String got(LabelHouse house, int size) {
        StringBuilder text = new StringBuilder();
        for (int i = 0; i < size; i++) {
            text.append((char) (house.got(i) & 255));
        }
        return text.toString();
    }

    static boolean dark(LabelHouse house, int x, int y) {
        return (house.dots(x, y) & 1) != 0;
    }

    /** A row of the sheet, # for dark and . for light. */
    static String row(LabelHouse house, int y) {
        StringBuilder text = new StringBuilder();
        for (int x = 0; x < house.told(0); x++) {
            text.append(dark(house, x, y) ? '#' : '.');
        }
        return text.toString();
    }

    /** All rows of the sheet, each behind a blank but the first. */
    static String sheet(LabelHouse house) {
        StringBuilder text = new StringBuilder();
        for (int y = 0; y < house.told(1); y++) {
            text.append(y == 0 ? "" : " ").append(row(house, y));
        }
        return text.toString();
    }

    /** A text for X or K in which no byte is taken for anything else. */
    static String escaped(String data) {
        StringBuilder text = new StringBuilder();
        for (int i = 0; i < data.length(); i++) {
            char c = data.charAt(i);
            if (c == '^' || c == '_' || i % 7 == 3) {
                text.append(String.format(i % 2 == 0 ? "_%02X" : "_%02x", (int) c));
            } else {
                text.append(c);
            }
        }
        return text.toString();
    }

    static String some(Random random, String signs, int size) {
        StringBuilder text = new StringBuilder();
        for (int i = 0; i < size; i++) {
            text.append(signs.charAt(random.nextInt(signs.length())));
        }
        return text.toString();
    }
}
