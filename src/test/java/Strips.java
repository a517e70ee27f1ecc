import java.util.Arrays;

/** Strips of bars, written as the document has them. */
final class Strips {
    /** The widths of the symbols 0 to 105. */
    static final String[] SYMBOLS = ("212222 222122 222221 121223 121322 131222 122213 122312 132212 221213 221312 231212 "
        + "112232 122132 122231 113222 123122 123221 223211 221132 221231 213212 223112 312131 "
        + "311222 321122 321221 312212 322112 322211 212123 212321 232121 111323 131123 131321 "
        + "112313 132113 132311 211313 231113 231311 112133 112331 132131 113123 113321 133121 "
        + "313121 211331 231131 213113 213311 213131 311123 311321 331121 312113 312311 332111 "
        + "314111 221411 431111 111224 111422 121124 121421 141122 141221 112214 112412 122114 "
        + "122411 142112 142211 241211 221114 413111 241112 134111 111242 121142 121241 114212 "
        + "124112 124211 411212 421112 421211 212141 214121 412121 111143 111341 131141 114113 "
        + "114311 411113 411311 113141 114131 311141 411131 211412 211214 211232").split(" ");
    /** The widths of the symbol 106. */
    static final String STOP = "2331112";

    private Strips() {
    }

    /** The symbol with such widths; -1 when there is none. */
    static int symbolOf(String six) {
        return Arrays.asList(SYMBOLS).indexOf(six);
    }

    /** The widths of symbols, their check symbol and 106. */
    static String row(int... symbols) {
        StringBuilder text = new StringBuilder();
        int sum = symbols[0];
        for (int i = 0; i < symbols.length; i++) {
            sum += i * symbols[i];
            text.append(SYMBOLS[symbols[i]]);
        }
        return text + SYMBOLS[sum % 103] + STOP;
    }

    static int[] widths(String pattern, int module) {
        int[] widths = new int[pattern.length()];
        for (int i = 0; i < widths.length; i++) {
            widths[i] = module * (pattern.charAt(i) - '0');
        }
        return widths;
    }

    /** A house with a strip in row 0 of its sheet, from x on. */
    static LabelHouse house(int x, int... widths) {
        LabelHouse house = Houses.printed("^L512,2^E");
        int at = x;
        for (int i = 0; i < widths.length; i++) {
            for (int done = 0; i % 2 == 0 && done < widths[i]; done += 64) {
                house.spoil(at + done, 0, widths[i] - done >= 64 ? -1L : (1L << (widths[i] - done)) - 1);
            }
            at += widths[i];
        }
        return house;
    }
}
