/** What a house did before does not count: a new one and one that was used much answer alike. */
public final class EdgeUsedTest {
    private static final Check CHECK = new Check();

    public static void main(String[] args) {
        labels();
        sheets();
        CHECK.exit();
    }

    /** A house whose memory is full of long data, large symbols, long strips and many places; its forms and fonts are as new. */
    private static LabelHouse used() {
        LabelHouse house = new LabelHouse();
        Houses.read(house, "^L512,512^P8^X" + "ff".repeat(100) + "^;^T^X" + "_FF".repeat(200) + "^;^B1^X" + "_81".repeat(60) + "^;^B1^X"
            + "12".repeat(32) + "^;^N1^X999999999999^;^Q2,3,0^X" + "_FF".repeat(200) + "^;^W1^X99999999999999999999^;^E");
        house.print(0);
        house.bars(0, 0, false);
        house.scan(1, 3, 300);
        Houses.read(house, "^L512,512^O100,100^Q2,3,0^X" + "_FF".repeat(200) + "^;^O10,50^B1,9^X" + "12".repeat(20) + "^;^E");
        house.print(0);
        house.scan(2, 2, 0);
        house.decode(0);
        house.bars(10, 50, false);
        // of a dark sheet all that is counted is as large as it can be
        Houses.read(house, "^L512,512" + "^F2048,2048,200^;^O150,150^F2048,2048,200^;^O300,300^F2048,2048,200^;^O450,450^F2048,2048,200^;^E");
        house.print(0);
        house.scan(1, 2, 0);
        Houses.read(house, "");
        return house;
    }

    /** All that a house tells of a text: its orders, its first label's dots, what is found and read on it. */
    private static String told(LabelHouse house, String text) {
        StringBuilder all = new StringBuilder(Houses.result(house, text));
        if (house.fault() != 0) {
            return all.toString();
        }
        all.append('/').append(Houses.orders(house)).append('/').append(house.print(0));
        for (int i = 0; i < 5; i++) {
            all.append(' ').append(house.drawn(i));
        }
        all.append('/').append(Houses.sheet(house)).append('/').append(Places.told(house, 1, 2, 0));
        if (house.found(0, 0) != LabelHouse.NONE) {
            int size = house.decode(0);
            all.append('/').append(size).append(Houses.got(house, Math.max(0, size) + 9));
        }
        if (house.told(6) > 0) {
            int size = house.bars(house.told(2), house.told(3), false);
            all.append('/').append(size).append(Houses.got(house, Math.max(0, size) + 9));
        }
        return all.toString();
    }

    private static void same(String text) {
        CHECK.due(text, told(used(), text), told(new LabelHouse(), text));
    }

    private static void labels() {
        CHECK.test("used: short data in place of long data", () -> {
            same("^L40,9^T^Xa^;^E");
            same("^L40,9^P8^X81^;^E");
            same("^L40,9^P9^X8180^;^P1^X80^;^P1^X80^;^E");
            same("^L40,9^W9^Xa_0Ab^;^E");
            same("^L40,9^C3^T^X7^#1^;^F^;^E");
        });
        CHECK.test("used: short rows of bars in place of long ones", () -> {
            for (String data : new String[] {"1", "12", "123", "A", "a", "_00", "_80", "A1", "a1", "_00a", "1a", "_801"}) {
                same("^L200,2^B1,2^X" + data + "^;^E");
            }
        });
        CHECK.test("used: thirteen figures in place of others", () -> {
            same("^L200,2^N1,2^X000000000000^;^E");
            same("^L200,2^N1,2^X123456789012^;^E");
        });
        CHECK.test("used: small symbols in place of large ones", () -> {
            for (int size : new int[] {1, 7, 17, 20, 40, 60, 90, 110, 150}) {
                for (int level = 0; level < 4; level++) {
                    same("^L90,90^O2,3^Q1," + level + ",3^X" + "a".repeat(size) + "^;^E");
                }
            }
            same("^L60,60^O2,3^Q2^X1^;^E");
            same("^L60,60^O2,3^Q2^XA^;^E");
        });
        CHECK.test("used: faults", () -> {
            for (String text : new String[] {"^", "^S1", "^S1^", "^L9", "^L9,9", "^L9,9^U1", "^L9,9^T^V1^;", "^K1,_", "^K1,_4", "^L9,9^T^;"}) {
                same(text);
            }
        });
    }

    private static void sheets() {
        CHECK.test("used: a small sheet in place of a large dark one", () -> {
            same("^L1,1^E");
            same("^L63,5^E");
            same("^L65,21^O3,3^F3,3,1^;^E");
            same("^L21,21^Q1,0,0^Xa^;^E");
            same("^L30,30^O20,20^Q1,0,0^Xa^;^E");
        });
        CHECK.test("used: a symbol without a FORM, whose next row would lie in a larger one", () -> {
            for (int version = 1; version <= 6; version++) {
                Symbol symbol = Symbol.of(version, 1, 0, new Bits(version).bytes("abc").toString());
                LabelHouse house = used();
                Houses.read(house, "^L" + symbol.side + "," + symbol.side + "^E");
                house.print(0);
                for (int y = 0; y < symbol.side; y++) {
                    long bits = 0;
                    for (int x = 0; x < symbol.side; x++) {
                        bits |= symbol.dark[y][x] ? 1L << x : 0;
                    }
                    house.spoil(0, y, bits);
                }
                // the first fifteen are wrong, and three of the second
                house.spoil(8, 0, 1);
                house.spoil(8, 1, 1);
                house.spoil(8, 2, 1);
                house.spoil(8, 3, 1);
                house.spoil(symbol.side - 3, 8, 7);
                CHECK.due("scan(1, 1, 0)", house.scan(1, 1, 0), 1);
                CHECK.due("decode(0)", house.decode(0), 3);
                CHECK.due("reading(3)", house.reading(3), 0);
            }
        });
    }
}
