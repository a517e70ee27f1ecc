import java.util.Arrays;
import java.util.HashMap;
import java.util.Map;

/** Strips of bars, written as the document has them. */
final class Strips {
    /** The widths of the symbols 0 to 105. */
    static final String[] SYMBOLS = ("212222 222122 222221 121223 121322 131222 122213 122312 132212 221213 221312 231212 "
        + "112232 122132 122231 113222 123122 123221 223211 221132 221231 213212 223112 312131 "
        + "311222 321122 321221 312212 322112 322211 212123 212321 232121 111323 131123 131321 "
        + "112313 132113 132311 211313 231113 231311 112133 112331 132131 113123 113321 133121 "
        + "313121 211331 231131 213113 213311 213131 311123 311321 331121 312113 312311 332111 "
        + "314111 221411 431111 111224 111422 121124 121421 141122 141221 112214 112412 122114 "
        + "122411 142112 142211 241211 221114 413111 241112 134111 111242 121142 121241 114212 "
        + "124112 124211 411212 421112 421211 212141 214121 412121 111143 111341 131141 114113 "
        + "114311 411113 411311 113141 114131 311141 411131 211412 211214 211232").split(" ");
    /** The widths of the symbol 106. */
    static final String STOP = "2331112";

    /** The widths of figures, and which of the second to the seventh are turned, by the first. */
    static final String[] FIGURES = "3211 2221 2122 1411 1132 1231 1114 1312 1213 3112".split(" ");
    static final String[] FIRSTS = "000000 001011 001101 001110 010011 011001 011100 010101 010110 011010".split(" ");

    private Strips() {
    }

    /** The symbol with such widths; -1 when there is none. */
    static int symbolOf(String six) {
        return Arrays.asList(SYMBOLS).indexOf(six);
    }

    /** The row of a text, the least of all shortest ones, without its end: a symbol is a character. */
    static String symbolsOf(String signs) {
        String best = null;
        for (int set = 0; set < 3; set++) {
            String rest = best(signs, 0, set, false, new HashMap<>());
            best = lesser(best, rest == null ? null : (char) (103 + set) + rest);
        }
        return best;
    }

    /** The rest of the row from a sign on, by trying all symbols; left tells that the set has just been left. */
    private static String best(String signs, int at, int set, boolean left, Map<String, String> known) {
        if (at == signs.length()) {
            return "";
        }
        String key = at + " " + set + " " + left;
        if (known.containsKey(key)) {
            return known.get(key);
        }
        String best = null;
        int sign = signs.charAt(at);
        for (int symbol = 0; symbol < 103; symbol++) {
            String rest = null;
            if (symbol == 102) {
                rest = sign == 128 ? best(signs, at + 1, set, false, known) : null;
            } else if (set == 2 && symbol < 100) {
                boolean two = signs.startsWith(String.format("%02d", symbol), at);
                rest = two ? best(signs, at + 2, set, false, known) : null;
            } else if (symbol < 96 && tells(symbol, set) == sign) {
                rest = best(signs, at + 1, set, false, known);
            } else if (symbol == 98) {
                for (int other = 0; other < 96; other++) {
                    if (tells(other, 1 - set) == sign) {
                        rest = (char) other + best(signs, at + 1, set, false, known);
                    }
                }
            } else if (symbol >= 99 && symbol != 101 - set && !left) {
                rest = best(signs, at, 101 - symbol, true, known);
            }
            best = lesser(best, rest == null ? null : (char) symbol + rest);
        }
        known.put(key, best);
        return best;
    }

    private static int tells(int symbol, int set) {
        return set == 0 && symbol > 63 ? symbol - 64 : symbol + 32;
    }

    private static String lesser(String a, String b) {
        if (a == null || b == null) {
            return a == null ? b : a;
        }
        if (a.length() != b.length()) {
            return a.length() < b.length() ? a : b;
        }
        return a.compareTo(b) <= 0 ? a : b;
    }

    /** The widths of symbols, their check symbol and 106. */
    static String row(int... symbols) {
        StringBuilder text = new StringBuilder();
        int sum = symbols[0];
        for (int i = 0; i < symbols.length; i++) {
            sum += i * symbols[i];
            text.append(SYMBOLS[symbols[i]]);
        }
        return text + SYMBOLS[sum % 103] + STOP;
    }

    static String turned(String pattern) {
        return new StringBuilder(pattern).reverse().toString();
    }

    /** The widths of thirteen figures, by the first twelve. */
    static String figureRow(String twelve) {
        int sum = 0;
        for (int i = 0; i < 12; i++) {
            sum += (twelve.charAt(i) - '0') * (i % 2 == 0 ? 1 : 3);
        }
        return figureRow(twelve, (10 - sum % 10) % 10);
    }

    static String figureRow(String twelve, int check) {
        String turns = FIRSTS[twelve.charAt(0) - '0'];
        StringBuilder text = new StringBuilder("111");
        for (int i = 1; i < 7; i++) {
            String figure = FIGURES[twelve.charAt(i) - '0'];
            text.append(turns.charAt(i - 1) == '1' ? turned(figure) : figure);
        }
        text.append("11111");
        for (int i = 7; i < 12; i++) {
            text.append(FIGURES[twelve.charAt(i) - '0']);
        }
        return text + FIGURES[check] + "111";
    }

    static int[] widths(String pattern, int module) {
        int[] widths = new int[pattern.length()];
        for (int i = 0; i < widths.length; i++) {
            widths[i] = module * (pattern.charAt(i) - '0');
        }
        return widths;
    }

    /** A house with a strip in row 0 of its sheet, from x on. */
    static LabelHouse house(int x, int... widths) {
        LabelHouse house = Houses.printed("^L512,2^E");
        int at = x;
        for (int i = 0; i < widths.length; i++) {
            for (int done = 0; i % 2 == 0 && done < widths[i]; done += 64) {
                house.spoil(at + done, 0, widths[i] - done >= 64 ? -1L : (1L << (widths[i] - done)) - 1);
            }
            at += widths[i];
        }
        return house;
    }
}
