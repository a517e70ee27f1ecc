import java.util.function.Consumer;

/**
 * The two sentences that close the terms: a call that throws, or answers NONE, changes nothing. Each refused call is made
 * on one of two houses that are alike; then both are asked for all that can be seen of them.
 */
public final class EdgeRefusalTest {
    private static final Check CHECK = new Check();
    private static final int NONE = LabelHouse.NONE;
    private static final int LEAST = Integer.MIN_VALUE;
    private static final int MOST = Integer.MAX_VALUE;

    public static void main(String[] args) {
        throwing();
        answeringNone();
        first();
        exceptions();
        CHECK.exit();
    }

    /** A house with fonts, forms, variables, labels, a drawn sheet, a found and read symbol, and bytes on its tape. */
    private static LabelHouse busy() {
        LabelHouse house = new LabelHouse();
        house.font(1, 3, 2, 1);
        house.cell(1, 'A', 0, 5);
        house.cell(0, 'A', 7, 129);
        Houses.read(house, "^S1^F3,2,1^;^Z^K2,v^L60,30^O2,3^Q1,1,4^Xabc^;^O30,9^T1^XA^;^B1^X_FF^;^E^L9,8^C2^T^X7^#1^;^E");
        house.print(0);
        house.scan(1, 1, 0);
        house.decode(0);
        house.spoil(50, 20, 5);
        Houses.feed(house, "^L7,7^U1^T^V2^;^E");
        return house;
    }

    /** A house that has met a fault, and whose tape is full. */
    private static LabelHouse full() {
        LabelHouse house = busy();
        house.wipe();
        Houses.feed(house, "^L9,9^Y");
        house.read();
        for (int left = 4096 - 7; left > 0; left -= 8) {
            house.feed(Math.min(8, left), 0x2020_2020_2020_2020L);
        }
        return house;
    }

    /** All that can be seen of a house; the last calls change it. */
    private static String seen(LabelHouse house) {
        StringBuilder text = new StringBuilder();
        look(house, text);
        text.append("/ read ").append(house.read()).append(' ').append(house.fault()).append(' ').append(house.place());
        look(house, text);
        text.append("/ wipe ").append(house.wipe());
        Houses.read(house, "^L30,20^U1^O9^T^XAA^;^O,9^T1^XAA^;^T2^V2^;^E");
        look(house, text);
        house.print(0);
        text.append(Houses.sheet(house));
        return text.toString();
    }

    private static void look(LabelHouse house, StringBuilder text) {
        text.append("/ ").append(house.fault()).append(' ').append(house.place()).append(' ').append(Houses.orders(house));
        for (int what = 0; what < 7; what++) {
            text.append(' ').append(house.told(what)).append(' ').append(house.reading(what));
        }
        for (int what = 0; what < 6; what++) {
            text.append(' ').append(house.found(0, what)).append(' ').append(house.found(1, what));
        }
        for (int i = 0; i < 4; i++) {
            text.append(' ').append(house.drawn(i)).append(' ').append(house.label(i, 0));
        }
        text.append(' ').append(house.got(0)).append(Houses.sheet(house));
    }

    private static void same(String what, Consumer<LabelHouse> refused) {
        CHECK.test("nothing has changed: " + what, () -> {
            LabelHouse house = busy();
            refused.accept(house);
            CHECK.due("all that is seen", seen(house), seen(busy()));
        });
    }

    private static long call(Runnable call) {
        call.run();
        return 0;
    }

    private static void throwing() {
        same("feed() with a wrong n", house -> {
            for (int n : new int[] {0, 9, -1, LEAST, MOST}) {
                CHECK.badArgument("feed(" + n + ", 1)", () -> house.feed(n, 1));
            }
        });
        same("font() with wrong numbers", house -> {
            for (int[] row : new int[][] {{-1, 8, 8, 0}, {4, 8, 8, 0}, {1, 0, 8, 0}, {1, 33, 8, 0}, {1, 8, 0, 0}, {1, 8, 33, 0}, {1, 8, 8, -1},
                {1, 8, 8, 33}}) {
                CHECK.badArgument("font()", () -> call(() -> house.font(row[0], row[1], row[2], row[3])));
            }
        });
        same("cell() with a wrong font, code or row", house -> {
            CHECK.badArgument("font 4", () -> call(() -> house.cell(4, 65, 0, -1)));
            CHECK.badArgument("font -1", () -> call(() -> house.cell(-1, 65, 0, -1)));
            CHECK.badArgument("code 256", () -> call(() -> house.cell(0, 256, 0, -1)));
            CHECK.badArgument("code -1", () -> call(() -> house.cell(1, -1, 0, -1)));
            CHECK.outOfBounds("row 2 of 2", () -> call(() -> house.cell(1, 65, 2, -1)));
            CHECK.outOfBounds("row -1", () -> call(() -> house.cell(0, 66, -1, -1)));
        });
        same("label(), order() and data() of what there is not", house -> {
            CHECK.badArgument("label(0, 4)", () -> house.label(0, 4));
            CHECK.badArgument("order(0, 9)", () -> house.order(0, 9));
            CHECK.outOfBounds("order(5, 0)", () -> house.order(5, 0));
            CHECK.outOfBounds("order(-1, 0)", () -> house.order(-1, 0));
            CHECK.outOfBounds("data(5, 0)", () -> house.data(5, 0));
            CHECK.outOfBounds("data(-1, 0)", () -> house.data(-1, 0));
        });
        same("print() of a label that there is not", house -> {
            for (int k : new int[] {-1, 3, LEAST, MOST}) {
                CHECK.outOfBounds("print(" + k + ")", () -> house.print(k));
            }
        });
        same("turn() by a wrong quarter", house -> {
            for (int quarter : new int[] {-1, 4, LEAST, MOST}) {
                CHECK.badArgument("turn(" + quarter + ")", () -> call(() -> house.turn(quarter)));
            }
        });
        same("told(), found() and reading() of another what", house -> {
            CHECK.badArgument("told(7)", () -> house.told(7));
            CHECK.badArgument("told(-1)", () -> house.told(-1));
            CHECK.badArgument("found(0, 6)", () -> house.found(0, 6));
            CHECK.badArgument("reading(7)", () -> house.reading(7));
            CHECK.badArgument("reading(-1)", () -> house.reading(-1));
        });
        same("run() off the sheet", house -> {
            CHECK.outOfBounds("run(60, 0, 0, false)", () -> house.run(60, 0, 0, false));
            CHECK.outOfBounds("run(0, 30, 0, true)", () -> house.run(0, 30, 0, true));
        });
        same("scan() with wrong numbers", house -> {
            for (int[] row : new int[][] {{0, 1, 0}, {17, 17, 0}, {2, 1, 0}, {1, 17, 0}, {1, 1, -1}, {1, 1, 501}}) {
                CHECK.badArgument("scan()", () -> house.scan(row[0], row[1], row[2]));
            }
        });
        same("decode() of a place that there is not", house -> {
            CHECK.outOfBounds("decode(1)", () -> house.decode(1));
            CHECK.outOfBounds("decode(-1)", () -> house.decode(-1));
        });
        same("bars() off the sheet", house -> {
            CHECK.outOfBounds("bars(60, 0, false)", () -> house.bars(60, 0, false));
            CHECK.outOfBounds("bars(0, -1, true)", () -> house.bars(0, -1, true));
        });
    }

    private static void answeringNone() {
        same("label(), drawn(), found() and run() that answer NONE", house -> {
            CHECK.due("label(3, 0)", house.label(3, 0), NONE);
            CHECK.due("drawn(2)", house.drawn(2), NONE);
            CHECK.due("drawn(3)", house.drawn(3), NONE);
            CHECK.due("found(1, 0)", house.found(1, 0), NONE);
            CHECK.due("run(0, 0, 60, false)", house.run(0, 0, 60, false), NONE);
            CHECK.due("place()", house.place(), NONE);
        });
        same("calls that just tell something", house -> {
            house.dots(0, 0);
            house.got(0);
            house.run(2, 3, 1, true);
            house.told(2);
            house.data(0, 0);
            house.order(1, 3);
            house.fault();
        });
        same("spoil() that meets no dot of the sheet", house -> {
            CHECK.due("spoil(60, 0, -1)", house.spoil(60, 0, -1), 0);
            CHECK.due("spoil(0, 30, -1)", house.spoil(0, 30, -1), 0);
            CHECK.due("spoil(0, 0, 0)", house.spoil(0, 0, 0), 0);
        });
        CHECK.test("nothing has changed: feed() of a full tape", () -> {
            LabelHouse house = full();
            for (int n = 1; n <= 8; n++) {
                CHECK.due("feed(" + n + ", ..)", house.feed(n, 0x4545_4545_4545_4545L), NONE);
            }
            CHECK.due("all that is seen", seen(house), seen(full()));
        });
    }

    private static void first() {
        CHECK.test("the exception that is named first comes first", () -> {
            LabelHouse house = busy();
            CHECK.badArgument("cell(4, 0, 99, 0)", () -> call(() -> house.cell(4, 0, 99, 0)));
            CHECK.badArgument("cell(0, 256, -1, 0)", () -> call(() -> house.cell(0, 256, -1, 0)));
            CHECK.badArgument("order(99, 9)", () -> house.order(99, 9));
            CHECK.badArgument("order(-1, -1)", () -> house.order(-1, -1));
        });
        CHECK.test("they throw before they answer NONE", () -> {
            LabelHouse house = full();
            CHECK.badArgument("feed(0, 0)", () -> house.feed(0, 0));
            CHECK.badArgument("label(99, 4)", () -> house.label(99, 4));
            CHECK.badArgument("found(99, 6)", () -> house.found(99, 6));
            CHECK.outOfBounds("run(60, 0, 99, false)", () -> house.run(60, 0, 99, false));
            CHECK.outOfBounds("bars(60, 0, false)", () -> house.bars(60, 0, false));
        });
    }

    private static void exceptions() {
        CHECK.test("no call throws anything else, for numbers of all kinds", () -> {
            int[] numbers = {LEAST, LEAST + 1, -4097, -65, -1, 0, 1, 2, 3, 7, 8, 9, 31, 32, 63, 64, 127, 255, 256, 511, 512, 4096, MOST - 1, MOST};
            for (boolean isBusy : new boolean[] {true, false}) {
                for (int a : numbers) {
                    for (int b : numbers) {
                        LabelHouse house = SHARED[isBusy ? 0 : 1];
                        only(() -> house.label(a, b));
                        only(() -> house.order(a, b));
                        only(() -> house.data(a, b));
                        only(() -> house.found(a, b));
                        only(() -> house.run(a, b, 1, (a & 1) == 0));
                        only(() -> house.bars(a, b, (a & 1) == 0));
                        only(() -> house.dots(a, b));
                        only(() -> house.spoil(a, b, 0));
                        only(() -> call(() -> house.cell(a, b, 0, -1)));
                        only(() -> call(() -> house.cell(0, a, b, -1)));
                        only(() -> house.scan(a, b, 0));
                        only(() -> house.scan(1, a, b));
                    }
                    LabelHouse house = SHARED[isBusy ? 0 : 1];
                    only(() -> house.got(a));
                    only(() -> house.drawn(a));
                    only(() -> house.told(a));
                    only(() -> house.reading(a));
                    only(() -> house.decode(a));
                    only(() -> house.print(a));
                }
            }
        });
    }

    private static final LabelHouse[] SHARED = {busy(), new LabelHouse()};

    /** Throws nothing but the two exceptions that the document names. */
    private static void only(Check.Call call) {
        try {
            call.answer();
        } catch (RuntimeException e) {
            boolean named = e.getClass() == IllegalArgumentException.class || e.getClass() == IndexOutOfBoundsException.class;
            CHECK.isTrue("threw " + e, named && e.getMessage() == null);
        }
    }
}
