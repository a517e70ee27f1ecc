import java.util.ArrayList;
import java.util.Arrays;
import java.util.List;

/** Codes of bars, promises 12 and 22 to 24, sentence by sentence: rows, thirteen figures, and the strips that are read. */
public final class EdgeBarsTest {
    private static final Check CHECK = new Check();
    private static final int NONE = LabelHouse.NONE;
    private static final int LEAST = Integer.MIN_VALUE;
    private static final int MOST = Integer.MAX_VALUE;

    public static void main(String[] args) {
        rows();
        figures();
        symbols();
        cannotStand();
        counting();
        figureStrips();
        strips();
        longest();
        dots();
        reading();
        got();
        CHECK.exit();
    }

    /** What bars() reads of a strip: its signs, or nothing. */
    private static String read(LabelHouse house) {
        int size = house.bars(0, 0, false);
        return size == NONE ? "NONE" : house.reading(0) + (house.reading(5) == 1 ? " back: " : " front: ") + Houses.got(house, size);
    }

    private static String read(int[] widths) {
        return read(Strips.house(0, widths));
    }

    private static void due(String what, int[] widths, String want) {
        CHECK.due(what, read(widths), want);
    }

    private static void due(String want, int... symbols) {
        CHECK.due(Arrays.toString(symbols), read(Strips.widths(Strips.row(symbols), 1)), want.equals("NONE") ? want : "1 front: " + want);
    }

    /** The row that is drawn for a text, as widths of one dot a module. */
    private static String drawn(String text) {
        LabelHouse house = Houses.printed("^L512,1^B1,1^X" + Houses.escaped(text) + "^;^E");
        StringBuilder widths = new StringBuilder();
        for (int i = 0; house.run(0, 0, i, false) != NONE; i++) {
            widths.append(house.run(0, 0, i, false));
        }
        // what is behind the last bar is the rest of the sheet
        return widths.length() == 0 ? "" : widths.substring(0, widths.lastIndexOf(Strips.STOP) + 7);
    }

    private static void dueRow(String text, int... symbols) {
        CHECK.due("the row of " + Houses.escaped(text), drawn(text), Strips.row(symbols));
    }

    private static void rows() {
        CHECK.test("bars: signs 0 to 127 and the mark, each alone, with the least first symbol", () -> {
            for (int sign = 0; sign <= 128; sign++) {
                String text = String.valueOf((char) sign);
                if (sign == 128) {
                    dueRow(text, 103, 102);
                } else if (sign < 32) {
                    dueRow(text, 103, sign + 64);
                } else if (sign < 96) {
                    dueRow(text, 103, sign - 32);
                } else {
                    dueRow(text, 104, sign - 32);
                }
            }
        });
        CHECK.test("bars: of rows with the fewest symbols the one whose symbols are the least", () -> {
            dueRow("A", 103, 33);
            dueRow("a", 104, 65);
            dueRow("12", 105, 12);
            dueRow("1", 103, 17);
            // 103 17 99 23 and 105 12 100 19 are as long
            dueRow("123", 103, 17, 18, 19);
            dueRow("1234", 105, 12, 34);
            dueRow("A12", 103, 33, 17, 18);
            dueRow("A1234", 103, 33, 99, 12, 34);
            dueRow("1234A", 105, 12, 34, 100, 33);
            dueRow("1234" + (char) 0, 105, 12, 34, 101, 64);
            dueRow("12A", 103, 17, 18, 33);
            dueRow("\200" + "12", 105, 102, 12);
            dueRow("\200" + "1", 103, 102, 17);
            dueRow("\200\200" + "a", 104, 102, 102, 65);
            dueRow("12\200" + "34", 105, 12, 102, 34);
        });
        CHECK.test("bars: 98 for one sign of the other set, a change of the set for more", () -> {
            dueRow("AaA", 104, 33, 65, 33);
            dueRow("\0a\0", 103, 64, 98, 65, 64);
            dueRow("a\0a", 104, 65, 98, 64, 65);
            dueRow("\0a", 103, 64, 98, 65);
            dueRow("\0aa", 103, 64, 100, 65, 65);
            dueRow("\0aa\0", 103, 64, 98, 65, 98, 65, 64);
        });
        CHECK.test("bars: the last signs of A, B and C, 95 and 127 and 99", () -> {
            dueRow("_", 103, 63);
            dueRow("`", 104, 64);
            dueRow("\37", 103, 95);
            dueRow("\177", 104, 95);
            dueRow("99", 105, 99);
            dueRow("00", 105, 0);
            dueRow("//", 103, 15, 15);
            dueRow("::", 103, 26, 26);
            for (String beside : new String[] {"/", ":"}) {
                int symbol = beside.charAt(0) - 32;
                dueRow("1" + beside, 103, 17, symbol);
                dueRow(beside + "1", 103, symbol, 17);
                dueRow("12" + beside + "1", 103, 17, 18, symbol, 17);
                dueRow("123" + beside, 103, 17, 18, 19, symbol);
            }
        });
        CHECK.test("bars: a row does not depend on the texts that were drawn before", () -> {
            String[] texts = {"1", "12", "123", "1234", "a", "aaaa", "\0", "\0\0\0", "A", "\200", "a1", "1a", "12345", "\0" + "a"};
            for (String before : texts) {
                LabelHouse house = new LabelHouse();
                for (String text : texts) {
                    for (String each : new String[] {before, text}) {
                        Houses.read(house, "^L200,1^B1,1^X" + Houses.escaped(each) + "^;^E");
                        house.print(0);
                    }
                    LabelHouse fresh = Houses.printed("^L200,1^B1,1^X" + Houses.escaped(text) + "^;^E");
                    CHECK.due(Houses.escaped(text) + " behind " + Houses.escaped(before), Houses.row(house, 0), Houses.row(fresh, 0));
                }
            }
        });
        CHECK.test("bars: from each set to each other one", () -> {
            dueRow("\0\0" + "1234", 103, 64, 64, 99, 12, 34);
            dueRow("aa1234", 104, 65, 65, 99, 12, 34);
            dueRow("1234aa", 105, 12, 34, 100, 65, 65);
            dueRow("1234\0\0", 105, 12, 34, 101, 64, 64);
            dueRow("\0\0\0aaa", 103, 64, 64, 64, 100, 65, 65, 65);
            dueRow("aaa\0\0\0", 104, 65, 65, 65, 101, 64, 64, 64);
            dueRow("aa1234\0\0" + "1234aa", 104, 65, 65, 99, 12, 34, 101, 64, 64, 99, 12, 34, 100, 65, 65);
            // 105 12 101 64 102 19 20 and 103 17 18 64 102 19 20 are as long
            dueRow("12\0\200" + "34", 103, 17, 18, 64, 99, 102, 34);
        });
        CHECK.test("bars: 64 signs have their row", () -> {
            int[] digits = new int[33];
            Arrays.fill(digits, 12);
            digits[0] = 105;
            dueRow("12".repeat(32), digits);
            // a row with many changes is wider than a sheet, so it is drawn part by part
            String text = ("\0\0\0aaa".repeat(11)).substring(0, 64);
            List<Integer> symbols = new ArrayList<>();
            symbols.add(103);
            for (int i = 0; i < 64; i++) {
                boolean changes = i > 0 && i % 3 == 0;
                if (changes) {
                    // the last sign is alone
                    symbols.add(i == 63 ? 98 : i % 6 == 0 ? 101 : 100);
                }
                symbols.add(i % 6 < 3 ? 64 : 65);
            }
            String row = Strips.row(symbols.stream().mapToInt(Integer::intValue).toArray());
            StringBuilder due = new StringBuilder();
            for (int i = 0; i < row.length(); i++) {
                due.append((i % 2 == 0 ? "#" : ".").repeat(row.charAt(i) - '0'));
            }
            StringBuilder seen = new StringBuilder();
            for (int x = 0; x < due.length(); x += 512) {
                seen.append(Houses.row(Houses.printed("^L512,1^O-" + x + "^B1,1^X" + Houses.escaped(text) + "^;^E"), 0));
            }
            CHECK.due("the dots of 64 signs", seen.toString(), due + ".".repeat(seen.length() - due.length()));
        });
    }

    private static void figures() {
        CHECK.test("thirteen figures: each first figure, and each figure at each place", () -> {
            for (int first = 0; first < 10; first++) {
                StringBuilder twelve = new StringBuilder().append(first);
                for (int i = 1; i < 12; i++) {
                    twelve.append((first + i) % 10);
                }
                LabelHouse house = Houses.printed("^L512,1^N2,1^X" + twelve + "^;^E");
                int[] due = Strips.widths(Strips.figureRow(twelve.toString()), 2);
                for (int i = 0; i < 59; i++) {
                    CHECK.due("width " + i + " of " + twelve, house.run(0, 0, i, false), due[i]);
                }
            }
        });
        CHECK.test("thirteen figures: a check figure of 0, and of 1 to 9", () -> {
            for (int last = 0; last < 10; last++) {
                String twelve = "00000000000" + last;
                int check = (10 - 3 * last % 10) % 10;
                LabelHouse house = Houses.printed("^L95,1^N1,1^X" + twelve + "^;^E");
                CHECK.due("bars", house.bars(0, 0, false), 13);
                CHECK.due("got", Houses.got(house, 13), twelve + check);
            }
        });
    }

    private static void symbols() {
        CHECK.test("promise 22: symbols 0 to 95 tell their signs in A and B, 0 to 99 in C", () -> {
            for (int s = 0; s < 96; s++) {
                due(String.valueOf((char) (s < 64 ? s + 32 : s - 64)), 103, s);
                due(String.valueOf((char) (s + 32)), 104, s);
            }
            for (int s = 0; s < 100; s++) {
                due(String.format("%02d", s), 105, s);
            }
        });
        CHECK.test("promise 22: 102 tells the mark in all sets", () -> {
            due("\200", 103, 102);
            due("\200", 104, 102);
            due("\200", 105, 102);
        });
        CHECK.test("promise 22: 98 tells the next symbol in the other one of A and B, and that alone", () -> {
            due("`@", 103, 98, 64, 32);
            due("\177\37", 103, 98, 95, 95);
            due("\0`", 104, 98, 64, 64);
            due("\37\177", 104, 98, 95, 95);
            due("  ", 103, 98, 0, 0);
            due("`a", 103, 98, 64, 98, 65);
        });
        CHECK.test("promise 22: 99, 100 and 101 change the set from there on", () -> {
            due("1234", 103, 99, 12, 34);
            due("1234", 104, 99, 12, 34);
            due("`a", 103, 100, 64, 65);
            due("`a", 105, 100, 64, 65);
            due("\0\1", 104, 101, 64, 65);
            due("\0\1", 105, 101, 64, 65);
            due("9899", 105, 98, 99);
            due("", 103, 99, 100, 101, 100, 99, 101);
        });
    }

    private static void cannotStand() {
        CHECK.test("promise 22: 96 and 97 cannot stand in A and B", () -> {
            for (int s : new int[] {96, 97}) {
                due("NONE", 103, s);
                due("NONE", 104, s);
                due(s + "", 105, s);
            }
        });
        CHECK.test("promise 22: 100 cannot stand in B, 101 not in A", () -> {
            due("NONE", 104, 100);
            due("NONE", 103, 101);
            due("NONE", 105, 100, 100);
            due("NONE", 105, 101, 101);
        });
        CHECK.test("promise 22: 103 to 105 cannot stand elsewhere, and 0 to 102 not first", () -> {
            for (int s = 103; s <= 105; s++) {
                for (int first = 103; first <= 105; first++) {
                    due("NONE", first, s);
                    due("NONE", first, 1, s);
                }
            }
            for (int first : new int[] {0, 50, 99, 100, 101, 102}) {
                due("NONE", first, 1);
            }
        });
        CHECK.test("promise 22: behind 98 comes one of 0 to 95, and not the check symbol", () -> {
            for (int s : new int[] {96, 97, 98, 99, 100, 101, 102, 103, 104, 105}) {
                due("NONE", 103, 98, s);
                due("NONE", 104, 98, s);
                due("NONE", 103, 98, s, 1);
            }
            due("NONE", 103, 98);
            due("NONE", 104, 98);
            due("NONE", 104, 1, 98);
        });
        CHECK.test("promise 22: the check symbol must be right, also where it is 0 and 102", () -> {
            // 103 gives 0; 103 + 1 * 102 gives 102
            due("", 103);
            due("\200", 103, 102);
            for (int wrong = 0; wrong < 106; wrong++) {
                int right = (104 + 33 + 2 * 34) % 103;
                if (wrong != right) {
                    String text = Strips.SYMBOLS[104] + Strips.SYMBOLS[33] + Strips.SYMBOLS[34] + Strips.SYMBOLS[wrong] + Strips.STOP;
                    due("check symbol " + wrong, Strips.widths(text, 1), "NONE");
                }
            }
        });
    }

    private static void counting() {
        CHECK.test("promise 22: a width counts as the nearest whole number, of two such as the greater one", () -> {
            // 44 dots are 11 modules: 6 is one and a half, 10 two and a half, 14 three and a half
            int[] half = Strips.widths(Strips.row(104, 0), 4);
            // symbol 0 is 212222
            System.arraycopy(new int[] {6, 4, 8, 8, 9, 9}, 0, half, 6, 6);
            due("one and a half counts as 2", half, "1 front:  ");
            System.arraycopy(new int[] {8, 5, 8, 8, 8, 7}, 0, half, 6, 6);
            due("one and a quarter counts as 1", half, "1 front:  ");
            System.arraycopy(new int[] {8, 6, 8, 8, 7, 7}, 0, half, 6, 6);
            due("one and a half counts as no 1", half, "NONE");
            System.arraycopy(new int[] {10, 4, 8, 8, 7, 7}, 0, half, 6, 6);
            due("two and a half counts as no 2", half, "NONE");
            System.arraycopy(new int[] {9, 4, 8, 8, 8, 7}, 0, half, 6, 6);
            due("two and a quarter counts as 2", half, "1 front:  ");
            System.arraycopy(new int[] {5, 5, 8, 8, 9, 9}, 0, half, 6, 6);
            due("one and a quarter counts as no 2", half, "NONE");
            // symbol 3 is 121223
            int[] third = Strips.widths(Strips.row(104, 3), 4);
            System.arraycopy(new int[] {4, 8, 4, 9, 9, 10}, 0, third, 6, 6);
            due("two and a half counts as 3", third, "1 front: #");
            System.arraycopy(new int[] {4, 9, 4, 9, 9, 9}, 0, third, 6, 6);
            due("two and a quarter counts as no 3", third, "NONE");
        });
        CHECK.test("promise 22: a width may count as 0, and tells nothing then", () -> {
            int[] none = Strips.widths(Strips.row(104, 0), 8);
            // 3 of 88 is three eighths of a module, 4 a half
            System.arraycopy(new int[] {16, 4, 17, 17, 17, 17}, 0, none, 6, 6);
            due("a half counts as 1", none, "1 front:  ");
            System.arraycopy(new int[] {17, 3, 17, 17, 17, 17}, 0, none, 6, 6);
            due("less counts as 0", none, "NONE");
        });
        CHECK.test("promise 22: each six counts by its own sum, so modules may differ from symbol to symbol", () -> {
            int[] small = Strips.widths(Strips.row(104, 33), 2);
            for (int i = 6; i < 12; i++) {
                small[i] *= 3;
            }
            due("one symbol larger", small, "1 front: A");
        });
        CHECK.test("promise 22: the last seven count as 106 with 13 modules together", () -> {
            int[] end = Strips.widths(Strips.row(104, 33), 4);
            int at = end.length - 7;
            // 52 dots are 13 modules; 2 3 3 1 1 1 2
            System.arraycopy(new int[] {8, 10, 12, 5, 5, 4, 8}, 0, end, at, 7);
            due("two and a half counts as 3", end, "1 front: A");
            System.arraycopy(new int[] {8, 9, 12, 5, 5, 4, 9}, 0, end, at, 7);
            due("less does not", end, "NONE");
            System.arraycopy(new int[] {8, 12, 12, 6, 3, 3, 8}, 0, end, at, 7);
            due("one and a half counts as no 1", end, "NONE");
            System.arraycopy(new int[] {8, 12, 13, 5, 4, 4, 6}, 0, end, at, 7);
            due("one and a half counts as 2", end, "1 front: A");
            System.arraycopy(new int[] {8, 12, 13, 5, 4, 5, 5}, 0, end, at, 7);
            due("one and a quarter does not", end, "NONE");
        });
    }

    private static void figureStrips() {
        String twelve = "590123412345";
        CHECK.test("promise 22: 59 widths of thirteen figures", () -> {
            for (int module = 1; module <= 5; module++) {
                due("module " + module, Strips.widths(Strips.figureRow(twelve), module), "2 front: 5901234123457");
                due("from the back, module " + module, Strips.widths(Strips.turned(Strips.figureRow(twelve)), module), "2 back: 5901234123457");
            }
        });
        CHECK.test("promise 22: the first three, the five in the middle and the last three all count as 1, with all widths", () -> {
            for (int i = 0; i < 59; i++) {
                boolean guard = i < 3 || (i >= 27 && i < 32) || i >= 56;
                int[] strip = Strips.widths(Strips.figureRow(twelve), 4);
                // of about 383 dots in all one module and a half are 6.05
                strip[i] = guard ? 6 : strip[i];
                due("a guard of 6 dots, " + i, strip, "2 front: 5901234123457");
                strip[i] = guard ? 7 : strip[i];
                due("a guard of 7 dots, " + i, strip, guard ? "NONE" : "2 front: 5901234123457");
                strip[i] = guard ? 2 : strip[i];
                // 2 of 378 are just above half a module
                due("a guard of 2 dots, " + i, strip, "2 front: 5901234123457");
                strip[i] = guard ? 1 : strip[i];
                due("a guard of 1 dot, " + i, strip, guard ? "NONE" : "2 front: 5901234123457");
            }
        });
        CHECK.test("promise 22: the four widths of a figure count with these four, and 7 modules", () -> {
            int[] strip = Strips.widths(Strips.figureRow(twelve), 4);
            // the last figure but the check figure is 5, 1231, of 28 dots: 10 is two and a half, 6 one and a half
            int at = 32 + 4 * 4;
            System.arraycopy(new int[] {4, 8, 11, 5}, 0, strip, at, 4);
            due("a little off", strip, "2 front: 5901234123457");
            System.arraycopy(new int[] {5, 8, 10, 5}, 0, strip, at, 4);
            due("two and a half counts as 3", strip, "2 front: 5901234123457");
            System.arraycopy(new int[] {5, 9, 9, 5}, 0, strip, at, 4);
            due("two and a quarter does not", strip, "NONE");
            System.arraycopy(new int[] {6, 6, 12, 4}, 0, strip, at, 4);
            due("one and a half counts as 2", strip, "NONE");
            System.arraycopy(new int[] {4, 6, 13, 5}, 0, strip, at, 4);
            due("as the second it should", strip, "2 front: 5901234123457");
            System.arraycopy(new int[] {2, 4, 6, 2}, 0, strip, at, 4);
            due("a figure of half the size", strip, "2 front: 5901234123457");
        });
        CHECK.test("promise 22: the last six are not turned", () -> {
            for (int i = 0; i < 6; i++) {
                String row = Strips.figureRow(twelve);
                int at = 32 + 4 * i;
                String other = row.substring(0, at) + Strips.turned(row.substring(at, at + 4)) + row.substring(at + 4);
                due("figure " + (8 + i), Strips.widths(other, 2), "NONE");
            }
        });
        CHECK.test("promise 22: the second to the seventh are turned as by one of the first figures", () -> {
            for (int turns = 0; turns < 64; turns++) {
                StringBuilder row = new StringBuilder("111");
                StringBuilder which = new StringBuilder();
                int sum = 0;
                for (int i = 1; i < 7; i++) {
                    boolean isTurned = (turns >> (6 - i) & 1) != 0;
                    which.append(isTurned ? '1' : '0');
                    row.append(isTurned ? Strips.turned(Strips.FIGURES[i]) : Strips.FIGURES[i]);
                    sum += i * (i % 2 == 0 ? 1 : 3);
                }
                int first = Arrays.asList(Strips.FIRSTS).indexOf(which.toString());
                int right = (20 - (sum + first) % 10) % 10;
                row.append("11111").append(Strips.FIGURES[0].repeat(5));
                // without a first figure no check figure is right
                for (int check = 0; check < 10; check++) {
                    String want = first < 0 || check != right ? "NONE" : "2 front: " + first + "12345600000" + check;
                    due("turned " + which, Strips.widths(row + Strips.FIGURES[check] + "111", 1), want);
                }
            }
        });
        CHECK.test("promise 22: the check figure must be right", () -> {
            for (int check = 0; check < 10; check++) {
                due("check figure " + check, Strips.widths(Strips.figureRow(twelve, check), 1), check == 7 ? "2 front: 5901234123457" : "NONE");
            }
        });
        CHECK.test("promise 22: 57 and 61 widths are not of thirteen figures", () -> {
            int[] all = Strips.widths(Strips.figureRow(twelve), 2);
            due("57", Arrays.copyOf(all, 57), "NONE");
            int[] more = Arrays.copyOf(all, 61);
            more[59] = 2;
            more[60] = 2;
            due("61, of which 59 are", more, "2 front: 5901234123457");
            due("from the third on 57", Arrays.copyOfRange(all, 2, 59), "NONE");
        });
    }

    private static void strips() {
        CHECK.test("promise 22: a row has 6 k + 7 widths, k 2 or more: a first symbol, a check symbol and 106", () -> {
            due("", 103);
            due("", 104);
            due("", 105);
            due("k of 1", Strips.widths(Strips.SYMBOLS[103] + Strips.STOP, 1), "NONE");
            due("k of 0", Strips.widths(Strips.STOP, 1), "NONE");
            due("18 widths", Arrays.copyOf(Strips.widths(Strips.row(103), 1), 18), "NONE");
            due("17 widths", Arrays.copyOf(Strips.widths(Strips.row(103), 1), 17), "NONE");
        });
        CHECK.test("promise 22: how many signs it tells, from none to more than 64", () -> {
            CHECK.due("none", Strips.house(0, Strips.widths(Strips.row(103), 1)).bars(0, 0, false), 0);
            for (int count : new int[] {31, 32, 33, 42}) {
                int[] symbols = new int[1 + count];
                Arrays.fill(symbols, 99);
                symbols[0] = 105;
                String want = "99".repeat(count);
                due(2 * count + " signs", Strips.widths(Strips.row(symbols), 1), "1 front: " + want);
                due(2 * count + " signs from the back", Strips.widths(Strips.turned(Strips.row(symbols)), 1), "1 back: " + want);
            }
        });
        CHECK.test("promise 22: from the back as if it were the other way round", () -> {
            due("a row", Strips.widths(Strips.turned(Strips.row(104, 33, 98, 65, 99, 12)), 2), "1 back: A\00112");
            due("a short row", Strips.widths(Strips.turned(Strips.row(103)), 2), "1 back: ");
        });
        CHECK.test("promise 22: neither from the front nor from the back", () -> {
            due("a bar alone", new int[] {9}, "NONE");
            due("all of one width", Strips.widths("1".repeat(59), 1), "NONE");
            due("all of one width", Strips.widths("1".repeat(61), 1), "NONE");
            due("the whole row dark", new int[] {512}, "NONE");
            due("512 runs", Strips.widths("1".repeat(512), 1), "NONE");
        });
        CHECK.test("promise 22: a strip ends with a dark one, at the sheet's edge or before other dots", () -> {
            String row = Strips.row(104, 33, 34);
            int x = 512 - 3 * (11 * 4 + 13);
            CHECK.due("up to the edge", Strips.house(x, Strips.widths(row, 3)).bars(x, 0, false), 2);
            CHECK.due("its last bar cut by one dot of six", Strips.house(x + 1, Strips.widths(row, 3)).bars(x + 1, 0, false), 2);
            CHECK.due("by two", Strips.house(x + 2, Strips.widths(row, 3)).bars(x + 2, 0, false), NONE);
            CHECK.due("by all", Strips.house(x + 6, Strips.widths(row, 3)).bars(x + 6, 0, false), NONE);
            // the same row on a sheet that ends before its last bar, behind a reading of all of it
            LabelHouse shorter = new LabelHouse();
            Houses.read(shorter, "^L171,1^B3,1^XAb^;^E^L165,1^B3,1^XAb^;^E");
            shorter.print(0);
            CHECK.due("all of it", shorter.bars(0, 0, false), 2);
            shorter.print(1);
            CHECK.due("without its last bar", shorter.bars(0, 0, false), NONE);
            int[] more = Arrays.copyOf(Strips.widths(row, 1), row.length() + 5);
            Arrays.fill(more, row.length(), more.length, 7);
            due("other dots behind it", more, "1 front: AB");
        });
    }

    private static void longest() {
        // 19 of these 59 widths are a row that tells nothing, all of them are thirteen figures
        int[] both = {7, 3, 4, 15, 4, 7, 11, 5, 11, 11, 11, 10, 5, 8, 8, 2, 3, 4, 7, 5, 10, 5, 15, 5, 5, 10, 15, 5, 5, 5, 5, 5, 5, 5, 5, 20,
            5, 20, 5, 5, 5, 10, 15, 5, 10, 10, 10, 5, 5, 20, 5, 5, 15, 5, 5, 10, 5, 5, 5};
        CHECK.test("promise 22: of all such strips the longest one", () -> {
            due("all", both, "2 front: 7912080635139");
            due("the first 19", Arrays.copyOf(both, 19), "1 front: ");
            due("the first 58", Arrays.copyOf(both, 58), "1 front: ");
        });
        CHECK.test("promise 22: the longest one, though its beginning is a row from the front and it is read from the back", () -> {
            int[] back = new int[59];
            for (int i = 0; i < 59; i++) {
                back[i] = both[58 - i];
            }
            due("all", back, "2 back: 7912080635139");
        });
        CHECK.test("promise 22: two rows one behind the other are not one", () -> {
            String one = Strips.row(104, 33);
            due("one space between", Strips.widths(one + "1" + one, 1), "1 front: A");
            due("a wide one", Strips.widths(one + "9" + one, 1), "1 front: A");
        });
    }

    private static void dots() {
        CHECK.test("promise 22: from a dark dot on, not from what is before it", () -> {
            LabelHouse house = Strips.house(10, Strips.widths(Strips.row(104, 33, 34), 3));
            CHECK.due("at its first dot", house.bars(10, 0, false), 2);
            CHECK.due("within its first bar", house.bars(11, 0, false), 2);
            CHECK.due("at the last dot of its first bar", house.bars(15, 0, false), NONE);
            CHECK.due("before it", house.bars(9, 0, false), NONE);
            CHECK.due("in its first space", house.bars(16, 0, false), NONE);
            CHECK.due("at its second bar", house.bars(19, 0, false), NONE);
        });
        CHECK.test("promise 22: NONE when the dot is light, and nothing is read then", () -> {
            LabelHouse house = Strips.house(10, Strips.widths(Strips.row(104, 33, 34), 3));
            for (int[] dot : new int[][] {{0, 0}, {9, 0}, {511, 1}, {10, 1}}) {
                CHECK.due("bars(10, 0, false)", house.bars(10, 0, false), 2);
                CHECK.due("bars(" + dot[0] + ", " + dot[1] + ", false)", house.bars(dot[0], dot[1], false), NONE);
                for (int what = 0; what < 6; what++) {
                    CHECK.due("reading(" + what + ")", house.reading(what), NONE);
                }
                CHECK.due("got(0)", house.got(0), 0);
            }
        });
        CHECK.test("promise 22: NONE when there is no such strip, and nothing is read then", () -> {
            LabelHouse house = Strips.house(10, Strips.widths(Strips.row(104, 33, 34), 3));
            CHECK.due("bars(10, 0, false)", house.bars(10, 0, false), 2);
            CHECK.due("downwards", house.bars(10, 0, true), NONE);
            for (int what = 0; what < 6; what++) {
                CHECK.due("reading(" + what + ")", house.reading(what), NONE);
            }
            CHECK.due("got(0)", house.got(0), 0);
        });
        CHECK.test("promise 22: to the right and downwards, at each quarter of the sheet", () -> {
            for (int quarter = 0; quarter < 4; quarter++) {
                LabelHouse house = Houses.printed("^L80,9^B1,9^XAB^;^E");
                house.turn(quarter);
                boolean down = quarter % 2 == 1;
                CHECK.due("bars", house.bars(house.told(2), house.told(3), down), 2);
                CHECK.due("reading(5)", house.reading(5), quarter < 2 ? 0 : 1);
                CHECK.due("got(0)", house.got(0), 0x4241);
                CHECK.due("the other way", house.bars(house.told(2), house.told(3), !down), NONE);
            }
        });
        CHECK.test("promise 22: refused, (x, y) lies not on the sheet, and what was read stays", () -> {
            LabelHouse house = Strips.house(0, Strips.widths(Strips.row(104, 33, 34), 3));
            CHECK.due("bars(0, 0, false)", house.bars(0, 0, false), 2);
            int[][] off = {{-1, 0}, {512, 0}, {0, -1}, {0, 2}, {LEAST, 0}, {MOST, 0}, {0, LEAST}, {0, MOST}};
            for (int[] dot : off) {
                CHECK.outOfBounds("bars(" + dot[0] + ", " + dot[1] + ", false)", () -> house.bars(dot[0], dot[1], false));
                CHECK.outOfBounds("bars(" + dot[0] + ", " + dot[1] + ", true)", () -> house.bars(dot[0], dot[1], true));
            }
            CHECK.due("reading(0)", house.reading(0), 1);
            CHECK.due("got(0)", house.got(0), 0x4241);
        });
        CHECK.test("promise 22: the last dot of the sheet, light and dark", () -> {
            LabelHouse house = Houses.printed("^L7,5^E");
            CHECK.due("light", house.bars(6, 4, false), NONE);
            house.spoil(6, 4, 1);
            CHECK.due("dark", house.bars(6, 4, false), NONE);
            CHECK.due("dark, downwards", house.bars(6, 4, true), NONE);
        });
    }

    private static void reading() {
        CHECK.test("promise 23: of a row 1, of thirteen figures 2, NONE for what a symbol has, and the way", () -> {
            String[] rows = {Strips.row(104, 33), Strips.turned(Strips.row(104, 33)), Strips.figureRow("590123412345"), Strips.turned(Strips.figureRow("590123412345"))};
            for (int i = 0; i < 4; i++) {
                LabelHouse house = Strips.house(0, Strips.widths(rows[i], 1));
                house.bars(0, 0, false);
                int[] due = {i < 2 ? 1 : 2, NONE, NONE, NONE, NONE, i % 2, 0};
                for (int what = 0; what < 7; what++) {
                    CHECK.due("reading(" + what + ") of strip " + i, house.reading(what), due[what]);
                }
            }
        });
        CHECK.test("promise 23: a row that tells nothing is read", () -> {
            LabelHouse house = Strips.house(0, Strips.widths(Strips.row(103), 1));
            CHECK.due("bars", house.bars(0, 0, false), 0);
            CHECK.due("reading(0)", house.reading(0), 1);
            CHECK.due("reading(5)", house.reading(5), 0);
            CHECK.due("got(0)", house.got(0), 0);
        });
        CHECK.test("promise 23: bars() in place of a symbol, and a symbol in place of bars", () -> {
            LabelHouse house = Houses.printed("^L120,40^Q1,2,6^Xab^;^O30^B1,5^XAB^;^E");
            house.scan(1, 1, 0);
            house.decode(0);
            int[] symbol = {0, 2, 6, 0, 1, NONE, 0};
            int[] bars = {1, NONE, NONE, NONE, NONE, 0, 0};
            for (int round = 0; round < 2; round++) {
                for (int what = 0; what < 7; what++) {
                    CHECK.due("reading(" + what + ")", house.reading(what), symbol[what]);
                }
                CHECK.due("bars", house.bars(30, 0, false), 2);
                for (int what = 0; what < 7; what++) {
                    CHECK.due("reading(" + what + ")", house.reading(what), bars[what]);
                }
                CHECK.due("decode(0)", house.decode(0), 2);
            }
        });
        CHECK.test("promise 23: the fault of the last decode() stays through bars(), read or not", () -> {
            LabelHouse house = Houses.printed("^L120,40^Q1,2,6^Xab^;^O30^B1,5^XAB^;^E");
            house.scan(1, 1, 0);
            house.spoil(8, 0, 1);
            house.spoil(8, 1, 1);
            house.spoil(8, 2, 1);
            house.spoil(8, 3, 1);
            house.spoil(17, 8, 15);
            CHECK.due("decode(0)", house.decode(0), NONE);
            CHECK.due("bars", house.bars(30, 0, false), 2);
            CHECK.due("reading(6)", house.reading(6), 1);
            CHECK.due("bars", house.bars(29, 0, false), NONE);
            CHECK.due("reading(6)", house.reading(6), 1);
        });
    }

    private static void got() {
        CHECK.test("promise 24: eight signs of bars from i on, 0 for each that they have not", () -> {
            LabelHouse house = Strips.house(0, Strips.widths(Strips.figureRow("123456789012"), 1));
            CHECK.due("got(0) before", house.got(0), 0);
            house.bars(0, 0, false);
            CHECK.due("got(0)", house.got(0), 0x3837_3635_3433_3231L);
            CHECK.due("got(5)", house.got(5), 0x3832_3130_3938_3736L);
            CHECK.due("got(6)", house.got(6), 0x38_3231_3039_3837L);
            CHECK.due("got(12)", house.got(12), '8');
            CHECK.due("got(13)", house.got(13), 0);
            CHECK.due("got(-7)", house.got(-7), 0x3100_0000_0000_0000L);
            CHECK.due("got(-8)", house.got(-8), 0);
        });
        CHECK.test("promise 24: the mark is 128, and i may be any number", () -> {
            LabelHouse house = Strips.house(0, Strips.widths(Strips.row(103, 102, 64), 1));
            CHECK.due("bars", house.bars(0, 0, false), 2);
            CHECK.due("got(0)", house.got(0), 128);
            for (int i : new int[] {LEAST, LEAST + 7, -9, 2, MOST - 7, MOST}) {
                CHECK.due("got(" + i + ")", house.got(i), 0);
            }
        });
        CHECK.test("promise 24: all of more than 64 signs", () -> {
            int[] symbols = new int[43];
            Arrays.fill(symbols, 12);
            symbols[0] = 105;
            LabelHouse house = Strips.house(0, Strips.widths(Strips.row(symbols), 1));
            CHECK.due("bars", house.bars(0, 0, false), 84);
            CHECK.due("got(76)", house.got(76), 0x3231_3231_3231_3231L);
            CHECK.due("got(83)", house.got(83), '2');
            CHECK.due("got(84)", house.got(84), 0);
        });
    }
}
