import java.util.Random;

/** Promises 4, 5, 12 and 13: random labels, drawn by the class and by a painter that is written by the document alone. */
public final class PainterTest {
    private static final Check CHECK = new Check();
    private static final String SIGNS = "0123456789 abAB-.\0\u0080";
    private static final String HEX = "0123456789abcdefABCDEF";

    public static void main(String[] args) {
        CHECK.test("promises 4, 5, 12, 13: labels of all kinds", () -> compare(1, 220, "TTWBNQFIGPT", 120));
        CHECK.test("promises 12, 13: bars and their texts", () -> compare(2, 120, "BBN", 300));
        CHECK.test("promises 12, 13: squares", () -> compare(3, 80, "Q", 100));
        CHECK.test("promises 12, 13: frames, ellipses and lines", () -> compare(4, 150, "FIG", 160));
        CHECK.test("promises 12, 13: wide and high sheets", () -> compare(5, 25, "TTWBNQFIGPT", 512));
        CHECK.exit();
    }

    private static void compare(int seed, int labels, String kinds, int most) {
        Random random = new Random(seed);
        for (int i = 0; i < labels; i++) {
            LabelHouse house = new LabelHouse();
            Painter painter = new Painter();
            fonts(random, house, painter);
            StringBuilder tape = new StringBuilder("^L").append(side(random, most)).append(',').append(side(random, most));
            for (int k = random.nextInt(5); k >= 0; k--) {
                tape.append(field(random, kinds.charAt(random.nextInt(kinds.length())), most));
            }
            compare(house, painter, tape + "^E");
        }
    }

    private static int side(Random random, int most) {
        return random.nextInt(12) == 0 ? 1 + random.nextInt(8) : most / 2 + random.nextInt(most / 2 + 1);
    }

    /** Fonts with some cells; those of before are gone where a font comes again. */
    private static void fonts(Random random, LabelHouse house, Painter painter) {
        for (int i = random.nextInt(5); i > 0; i--) {
            int font = random.nextInt(4);
            int w = 1 + random.nextInt(random.nextInt(3) == 0 ? 32 : 8);
            int h = 1 + random.nextInt(random.nextInt(3) == 0 ? 32 : 8);
            int gap = random.nextInt(random.nextInt(3) == 0 ? 33 : 3);
            house.font(font, w, h, gap);
            painter.font(font, w, h, gap);
            cells(random, house, painter, font, h);
        }
        cells(random, house, painter, random.nextInt(4), 1);
    }

    private static void cells(Random random, LabelHouse house, Painter painter, int font, int h) {
        for (int k = 0; k < 40; k++) {
            int code = SIGNS.charAt(random.nextInt(SIGNS.length()));
            int r = random.nextInt(h);
            int bits = random.nextInt();
            house.cell(font, code, r, bits);
            painter.cell(font, code, r, bits);
        }
    }

    private static String place(Random random, int most) {
        return (random.nextInt(most + most / 2) - most / 4) + "," + (random.nextInt(most + most / 2) - most / 4);
    }

    private static String field(Random random, char kind, int most) {
        String quarter = "," + random.nextInt(4);
        String scales = "," + (1 + random.nextInt(4)) + "," + (1 + random.nextInt(random.nextInt(5) == 0 ? 10 : 3));
        int thick = 1 + random.nextInt(random.nextInt(4) == 0 ? 60 : 6);
        String data = Houses.escaped(Houses.some(random, SIGNS, 1 + random.nextInt(24)));
        String bars = (1 + random.nextInt(3)) + "," + (1 + random.nextInt(60)) + quarter;
        String told = switch (kind) {
            case 'T' -> random.nextInt(4) + scales + quarter + "^X" + data;
            case 'W' -> (1 + random.nextInt(9)) + ",9," + random.nextInt(3) + ",7^D" + random.nextInt(4) + scales + quarter
                + "^X" + data.substring(data.length() - Math.min(12, data.length())).replace("_", "");
            case 'B' -> bars + "," + random.nextInt(2) + "^X" + (random.nextInt(9) == 0 ? data + "_81" : data);
            case 'N' -> bars + "^X" + Houses.some(random, "0123456789", 12);
            case 'Q' -> (1 + random.nextInt(3)) + "," + random.nextInt(4) + "," + (random.nextInt(9) - 1) + quarter + "^X" + data;
            case 'G' -> place(random, most) + "," + thick;
            case 'P' -> (1 + random.nextInt(40)) + "^X" + Houses.some(random, HEX, 120);
            default -> (1 + random.nextInt(most)) + "," + (1 + random.nextInt(most)) + "," + thick;
        };
        return "^O" + place(random, most) + (random.nextInt(3) == 0 ? "^R" : "") + "^" + kind + told + "^;";
    }

    private static void compare(LabelHouse house, Painter painter, String tape) {
        Reader reader = new Reader();
        CHECK.due("read() of " + tape, Houses.read(house, tape), reader.read(tape));
        if (reader.labels.isEmpty()) {
            CHECK.isTrue("an order that can be, not " + tape, reader.fault == 8);
            return;
        }
        String[] size = reader.labels.get(0).split(" ");
        painter.begin(Integer.parseInt(size[0]), Integer.parseInt(size[1]));
        int drawn = house.print(0);
        for (int i = 0; i < reader.orders.size(); i++) {
            int due = painter.draw(reader.orders.get(i));
            CHECK.due("drawn(" + i + ") of " + tape, house.drawn(i), due);
            drawn -= due < 0 ? 0 : 1;
        }
        CHECK.due("print() beyond what is due of " + tape, drawn, 0);
        CHECK.isTrue("the sheet of " + tape, Houses.sheet(house).equals(painter.sheet()));
    }
}
