import java.util.Random;

/** What several tests do with a house. */
final class Houses {
    private Houses() {
    }

    /** Feeds a text whose characters are bytes. */
    static void feed(LabelHouse house, String text) {
        for (int i = 0; i < text.length(); i += 8) {
            int n = Math.min(8, text.length() - i);
            long bytes = 0;
            for (int j = 0; j < n; j++) {
                bytes |= (long) (text.charAt(i + j) & 255) << (8 * j);
            }
            house.feed(n, bytes);
        }
    }

    /** Reads a text as the whole tape. */
    static int read(LabelHouse house, String text) {
        house.wipe();
        feed(house, text);
        return house.read();
    }

    /** A new house that has read a text and printed its first label. */
    static LabelHouse printed(String text) {
        LabelHouse house = new LabelHouse();
        read(house, text);
        house.print(0);
        return house;
    }

    static String data(LabelHouse house, int k) {
        StringBuilder text = new StringBuilder();
        int size = house.order(k, 8);
        for (int i = 0; i < size; i += 8) {
            append(text, house.data(k, i), size - i);
        }
        return text.toString();
    }

    static String got(LabelHouse house, int size) {
        StringBuilder text = new StringBuilder();
        for (int i = 0; i < size; i += 8) {
            append(text, house.got(i), size - i);
        }
        return text.toString();
    }

    private static void append(StringBuilder text, long eight, int most) {
        for (int j = 0; j < 8 && j < most; j++) {
            text.append((char) (eight >>> (8 * j) & 255));
        }
    }

    /** The data of a field in its copies, each behind a bar, lines with a / between them. */
    static String counted(String kind, String data, int step, int copies) {
        LabelHouse house = new LabelHouse();
        read(house, "^L9,9^C" + copies + kind + "^X" + data + "^#" + step + "^;^E");
        StringBuilder text = new StringBuilder();
        for (int c = 0; c < copies; c++) {
            text.append('|');
            for (int i = 0; i < house.label(c, 3); i++) {
                text.append(i == 0 ? "" : "/").append(data(house, house.label(c, 2) + i));
            }
        }
        return text.toString();
    }

    static boolean dark(LabelHouse house, int x, int y) {
        return (house.dots(x, y) & 1) != 0;
    }

    /** A row of the sheet, # for dark and . for light; it takes few calls, for an object has 512. */
    static String row(LabelHouse house, int y) {
        StringBuilder text = new StringBuilder();
        int width = house.told(0);
        for (int x = 0; x < width; x += 64) {
            long bits = house.dots(x, y);
            for (int i = 0; i < 64 && x + i < width; i++) {
                text.append((bits >>> i & 1) != 0 ? '#' : '.');
            }
        }
        return text.toString();
    }

    /** All rows of the sheet, each behind a blank but the first. */
    static String sheet(LabelHouse house) {
        StringBuilder text = new StringBuilder();
        int height = house.told(1);
        for (int y = 0; y < height; y++) {
            text.append(y == 0 ? "" : " ").append(row(house, y));
        }
        return text.toString();
    }

    /** What read() makes of a text on a new house: how many labels, or the fault and its place. */
    static String result(String text) {
        return result(new LabelHouse(), text);
    }

    static String result(LabelHouse house, String text) {
        int labels = read(house, text);
        return labels == LabelHouse.NONE ? "fault " + house.fault() + " at " + house.place() : Integer.toString(labels);
    }

    /** What result() tells of a fault. */
    static String fault(int fault, int place) {
        return "fault " + fault + " at " + place;
    }

    /** All orders: kind, x, y, r, way, a, b, c and the data, one order behind a bar from the next. */
    static String orders(LabelHouse house) {
        StringBuilder text = new StringBuilder();
        int labels = 0;
        int count = 0;
        while (house.label(labels, 0) != LabelHouse.NONE) {
            count += house.label(labels, 3);
            labels++;
        }
        for (int k = 0; k < count; k++) {
            text.append(k == 0 ? "" : "|");
            for (int what = 0; what < 8; what++) {
                text.append(house.order(k, what)).append(' ');
            }
            text.append(data(house, k));
        }
        return text.toString();
    }

    /** The orders of a text that is read by a new house, or its fault. */
    static String orders(String text) {
        LabelHouse house = new LabelHouse();
        String result = result(house, text);
        return result.startsWith("fault") ? result : orders(house);
    }

    /** The orders of the fields of one label. */
    static String ofLabel(String fields) {
        return orders("^L9,9" + fields + "^E");
    }

    /** A text for X or K in which no byte is taken for anything else. */
    static String escaped(String data) {
        StringBuilder text = new StringBuilder();
        for (int i = 0; i < data.length(); i++) {
            char c = data.charAt(i);
            if (c == '^' || c == '_' || i % 7 == 3) {
                text.append(String.format(i % 2 == 0 ? "_%02X" : "_%02x", (int) c));
            } else {
                text.append(c);
            }
        }
        return text.toString();
    }

    static String some(Random random, String signs, int size) {
        StringBuilder text = new StringBuilder();
        for (int i = 0; i < size; i++) {
            text.append(signs.charAt(random.nextInt(signs.length())));
        }
        return text.toString();
    }
}
