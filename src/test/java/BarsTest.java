import java.util.ArrayList;
import java.util.Arrays;
import java.util.List;
import java.util.Random;

/** Promises 22 to 24 for codes of bars, and the rows that are drawn. */
public final class BarsTest {
    private static final Check CHECK = new Check();

    public static void main(String[] args) {
        rows();
        figures();
        bars();
        strips();
        longest();
        reading();
        got();
        CHECK.exit();
    }

    /** The widths of a strip in a row of the sheet, up to the last dark one. */
    private static List<Integer> widths(LabelHouse house, int x, int y) {
        List<Integer> all = new ArrayList<>();
        for (int i = 0; house.run(x, y, i, false) != -1; i++) {
            all.add(house.run(x, y, i, false));
        }
        if (all.size() % 2 == 0) {
            all.remove(all.size() - 1);
        }
        return all;
    }

    /** The symbols of a drawn row without its check symbol and 106, which are looked at here. */
    private static List<Integer> drawnSymbols(LabelHouse house, int module) {
        StringBuilder text = new StringBuilder();
        for (int width : widths(house, 0, 0)) {
            text.append(width / module);
        }
        List<Integer> symbols = new ArrayList<>();
        int last = text.length() - 7;
        CHECK.due("the end of a row", text.substring(last), Strips.STOP);
        for (int i = 0; i < last; i += 6) {
            symbols.add(Strips.symbolOf(text.substring(i, i + 6)));
        }
        int check = symbols.remove(symbols.size() - 1);
        int sum = symbols.get(0);
        for (int i = 1; i < symbols.size(); i++) {
            sum += i * symbols.get(i);
        }
        CHECK.due("the check symbol", check, sum % 103);
        return symbols;
    }

    private static void dueRow(String signs) {
        LabelHouse house = Houses.printed("^L512,9^B1,9^X" + Houses.escaped(signs) + "^;^E");
        StringBuilder drawn = new StringBuilder();
        for (int symbol : drawnSymbols(house, 1)) {
            drawn.append((char) symbol);
        }
        CHECK.isTrue("the row of " + Houses.escaped(signs), drawn.toString().equals(Strips.symbolsOf(signs)));
        CHECK.due("it is read back", house.bars(0, 0, false), signs.length());
        CHECK.due("as it was", Houses.got(house, signs.length()), signs);
    }

    private static void rows() {
        CHECK.begin("promise 12: rows of symbols");
        String[] texts = {"A", "a", "\0", "12", "1", "123", "1234", "AB12345678", "a1234", "ab12", "12ab", "\0a\0", "a\0a",
            "\200", "\20012", "12\20034", "a\20012\200", "\200\200", "A\2001234", "a\0b\1c", "ABC123456\3abc", "99", "9898"};
        for (String text : texts) {
            dueRow(text);
        }
        Random random = new Random(7);
        String[] signs = {"0123456789", "/0123456789:", "\0_`a\37 ", "abcxyz~\177", "\0\1\2\31\37", "ABC _^", "0123456789\200", "01aA\1\200"};
        for (int i = 0; i < 120; i++) {
            StringBuilder text = new StringBuilder();
            for (int part = 0; part <= random.nextInt(4); part++) {
                text.append(Houses.some(random, signs[random.nextInt(signs.length)], 1 + random.nextInt(5)));
            }
            dueRow(text.toString());
        }
        CHECK.end();
    }

    private static void figures() {
        CHECK.begin("promise 12: thirteen figures");
        LabelHouse house = Houses.printed("^L200,9^N1,5^X590123412345^;^E");
        String modules = "101" + "0001011" + "0100111" + "0110011" + "0010011" + "0111101" + "0011101" + "01010"
            + "1100110" + "1101100" + "1000010" + "1011100" + "1001110" + "1000100" + "101";
        String row = modules.replace('1', '#').replace('0', '.');
        for (int y = 0; y < 9; y++) {
            CHECK.due("row " + y, Houses.row(house, y), y < 5 ? row + ".".repeat(105) : ".".repeat(200));
        }
        CHECK.due("bars", house.bars(0, 0, false), 13);
        CHECK.due("signs", Houses.got(house, 13), "5901234123457");
        for (int first = 0; first < 10; first++) {
            LabelHouse other = Houses.printed("^L400,300^O299,250^N2,5,2^X" + first + "13579864200^;^E");
            CHECK.due("the first figure " + first, other.bars(110, 250, false), 13);
            CHECK.due("signs", Houses.got(other, 12), first + "13579864200");
            CHECK.due("from the back", other.reading(5), 1);
        }
        wrongFigures();
        CHECK.end();
    }

    /** Strips of 59 widths: the four of each figure as they are given, behind them what is due. */
    private static void wrongFigures() {
        // 5 901234 123457: of the first six the second, the third and the sixth are turned
        String[] right = {"3112", "1123", "1222", "2122", "1411", "2311", "2221", "2122", "1411", "1132", "1231", "1312"};
        CHECK.due("as it should be", figureStrip(right, 1, 0).bars(0, 0, false), 13);
        String[] check = right.clone();
        check[11] = "1213";
        CHECK.due("a wrong check figure", figureStrip(check, 1, 0).bars(0, 0, false), -1);
        String[] turned = right.clone();
        turned[0] = "2113";
        CHECK.due("turned as by no first figure", figureStrip(turned, 1, 0).bars(0, 0, false), -1);
        String[] late = right.clone();
        late[11] = "2131";
        CHECK.due("a turned one of the last six", figureStrip(late, 1, 0).bars(0, 0, false), -1);
        String[] none = right.clone();
        none[3] = "2311";
        none[4] = "2221";
        CHECK.due("other figures", figureStrip(none, 1, 0).bars(0, 0, false), -1);
        // 3 of 191 is 1.49 of 95 modules; 6 of 386 is 1.48, but 7 of 387 is 1.72
        CHECK.due("a guard that is a little too wide", figureStrip(right, 2, 1).bars(0, 0, false), 13);
        CHECK.due("wider", figureStrip(right, 4, 2).bars(0, 0, false), 13);
        CHECK.due("too wide", figureStrip(right, 4, 3).bars(0, 0, false), -1);
    }

    private static LabelHouse figureStrip(String[] figures, int module, int more) {
        StringBuilder text = new StringBuilder("111");
        for (int i = 0; i < 12; i++) {
            text.append(i == 6 ? "11111" : "").append(figures[i]);
        }
        text.append("111");
        int[] widths = new int[text.length()];
        for (int i = 0; i < widths.length; i++) {
            widths[i] = module * (text.charAt(i) - '0');
        }
        widths[28] += more;
        return withStrip(widths);
    }

    private static void bars() {
        CHECK.begin("promise 22: bars");
        for (int r = 0; r < 4; r++) {
            LabelHouse house = Houses.printed("^L300,300^O150,150^B1,7," + r + "^XAb_80123456^;^E");
            int x = house.told(2);
            int y = house.told(3);
            CHECK.due("bars at quarter " + r, house.bars(x, y, r % 2 == 1), 9);
            CHECK.due("reading(0)", house.reading(0), 1);
            CHECK.due("reading(5)", house.reading(5), r >= 2 ? 1 : 0);
            CHECK.due("signs", Houses.got(house, 9), "Ab\200123456");
            CHECK.due("the other way", house.bars(x, y, r % 2 == 0), -1);
            CHECK.due("nothing is read then", house.reading(0), -1);
            CHECK.due("a light dot", house.bars(0, 0, false), -1);
            CHECK.outOfBounds("bars(300, 0, false)", () -> house.bars(300, 0, false));
            CHECK.outOfBounds("bars(0, 300, true)", () -> house.bars(0, 300, true));
            CHECK.outOfBounds("bars(-1, 0, true)", () -> house.bars(-1, 0, true));
        }
        LabelHouse throwing = Houses.printed("^L200,9^N1,5^X590123412345^;^E");
        throwing.bars(0, 0, false);
        CHECK.outOfBounds("bars(0, 9, false)", () -> throwing.bars(0, 9, false));
        CHECK.due("a call that throws changes nothing", throwing.reading(0), 2);
        CHECK.end();
    }

    private static LabelHouse withStrip(int... widths) {
        return Strips.house(0, widths);
    }

    private static int[] strip(int module, int... symbols) {
        return Strips.widths(Strips.row(symbols), module);
    }

    private static void dueSymbols(int signs, String text, int... symbols) {
        LabelHouse house = withStrip(strip(1, symbols));
        CHECK.due("bars of a strip", house.bars(0, 0, false), signs);
        CHECK.due("its signs", Houses.got(house, Math.max(signs, 0)), text);
    }

    private static void strips() {
        CHECK.begin("promise 22: strips of symbols");
        dueSymbols(0, "", 103);
        dueSymbols(0, "", 104, 99, 100, 101, 100);
        dueSymbols(3, "! \0", 103, 1, 0, 64);
        dueSymbols(2, "`\177", 104, 64, 95);
        dueSymbols(4, "0799", 105, 7, 99);
        dueSymbols(3, "\200\200\200", 105, 102, 100, 102, 101, 102);
        dueSymbols(2, "`A", 103, 98, 64, 33);
        dueSymbols(2, "\0a", 104, 98, 64, 65);
        dueSymbols(1, "`", 103, 98, 64);
        dueSymbols(1, "\37", 104, 98, 95);
        dueSymbols(-1, "", 103, 98);
        dueSymbols(-1, "", 103, 98, 102, 0);
        dueSymbols(-1, "", 103, 98, 98, 0);
        dueSymbols(-1, "", 103, 98, 96);
        dueSymbols(-1, "", 103, 96);
        dueSymbols(-1, "", 104, 97);
        dueSymbols(-1, "", 104, 100);
        dueSymbols(-1, "", 103, 101);
        dueSymbols(-1, "", 105, 103);
        dueSymbols(-1, "", 103, 104);
        dueSymbols(-1, "", 50, 3);
        int[] wrongCheck = strip(1, 104, 33, 34);
        System.arraycopy(strip(1, 104, 33, 35), 12, wrongCheck, 12, 6);
        CHECK.due("a wrong check symbol", withStrip(wrongCheck).bars(0, 0, false), -1);
        int[] uneven = strip(2, 104, 33);
        uneven[0]++;
        CHECK.due("a bar that is a little too wide", withStrip(uneven).bars(0, 0, false), 1);
        // of two whole numbers that are as near the greater one counts: 6 of 44 is one module and a half
        int[] half = strip(4, 104, 0);
        System.arraycopy(new int[] {6, 4, 8, 8, 9, 9}, 0, half, 6, 6);
        CHECK.due("a half", withStrip(half).bars(0, 0, false), 1);
        half[6] = 5;
        half[7] = 5;
        CHECK.due("less than a half", withStrip(half).bars(0, 0, false), -1);
        int[] many = new int[42];
        Arrays.fill(many, 12);
        many[0] = 105;
        CHECK.due("more than 64 signs", withStrip(strip(1, many)).bars(0, 0, false), 82);
        CHECK.end();
    }

    private static void longest() {
        CHECK.begin("promise 22: the longest strip");
        int[] widths = strip(1, 104, 33, 34);
        int[] more = Arrays.copyOf(widths, widths.length + 4);
        more[widths.length] = 9;
        more[widths.length + 1] = 2;
        more[widths.length + 2] = 1;
        more[widths.length + 3] = 1;
        LabelHouse house = withStrip(more);
        CHECK.due("what is behind it does not count", house.bars(0, 0, false), 2);
        CHECK.due("signs", Houses.got(house, 2), "AB");
        CHECK.due("from within it", house.bars(1, 0, false), -1);
        int[] back = new int[widths.length];
        for (int i = 0; i < back.length; i++) {
            back[i] = widths[back.length - 1 - i];
        }
        LabelHouse turned = withStrip(back);
        CHECK.due("from the back", turned.bars(0, 0, false), 2);
        CHECK.due("reading(5)", turned.reading(5), 1);
        CHECK.due("signs", Houses.got(turned, 2), "AB");
        CHECK.end();
    }

    private static void reading() {
        CHECK.begin("promise 23: reading of bars");
        LabelHouse house = Houses.printed("^L300,60^B1,5^XAB^;^O0,20^N1,5^X590123412345^;^O200,10^Q1^Xq^;^E");
        house.bars(0, 0, false);
        int[] row = {1, -1, -1, -1, -1, 0, 0};
        int[] figures = {2, -1, -1, -1, -1, 0, 0};
        for (int what = 0; what < 7; what++) {
            CHECK.due("reading(" + what + ") of a row", house.reading(what), row[what]);
        }
        house.bars(0, 20, false);
        for (int what = 0; what < 7; what++) {
            CHECK.due("reading(" + what + ") of figures", house.reading(what), figures[what]);
        }
        house.turn(2);
        house.spoil(0, 0, -1);
        house.scan(1, 1, 0);
        Houses.read(house, "^L9,9^F^;^E");
        house.print(0);
        CHECK.due("nothing else changes it", house.reading(0), 2);
        CHECK.badArgument("reading(7)", () -> house.reading(7));
        CHECK.badArgument("reading(-1)", () -> house.reading(-1));
        CHECK.end();
    }

    private static void got() {
        CHECK.begin("promise 24: got");
        LabelHouse house = Houses.printed("^L300,60^B1,5^X_801abcdefgH^;^E");
        CHECK.due("got(0) before", house.got(0), 0);
        CHECK.due("bars", house.bars(0, 0, false), 10);
        CHECK.due("got(0)", house.got(0), 0x6665_6463_6261_3180L);
        CHECK.due("got(2)", house.got(2), 0x4867_6665_6463_6261L);
        CHECK.due("got(3)", house.got(3), 0x48_6766_6564_6362L);
        CHECK.due("got(9)", house.got(9), 'H');
        CHECK.due("got(10)", house.got(10), 0);
        CHECK.due("got(-7)", house.got(-7), 0x8000_0000_0000_0000L);
        CHECK.due("got(-8)", house.got(-8), 0);
        CHECK.due("got(least)", house.got(Integer.MIN_VALUE), 0);
        CHECK.due("got(most)", house.got(Integer.MAX_VALUE), 0);
        house.bars(299, 59, false);
        CHECK.due("got(0) when nothing is read", house.got(0), 0);
        CHECK.end();
    }
}
