import java.util.Arrays;

/** What a row of runs tells when bars() begins with its first one, by the document alone. */
final class Teller {
    private Teller() {
    }

    /** As "1 front: AB" (1 for a row of symbols, 2 for thirteen figures), or "NONE". */
    static String told(int[] runs) {
        for (int length = runs.length; length > 0; length--) {
            int[] strip = Arrays.copyOf(runs, length);
            // the first run is dark, so those that end with a dark one are odd
            for (int back = 0; length % 2 == 1 && back < 2; back++) {
                String figures = length == 59 ? figures(strip) : null;
                String row = length % 6 == 1 && length >= 19 ? row(strip) : null;
                if (figures != null || row != null) {
                    return (figures != null ? "2" : "1") + (back == 1 ? " back: " : " front: ") + (figures != null ? figures : row);
                }
                strip = reversed(strip);
            }
        }
        return "NONE";
    }

    static int[] reversed(int[] row) {
        int[] other = new int[row.length];
        for (int i = 0; i < row.length; i++) {
            other[row.length - 1 - i] = row[i];
        }
        return other;
    }

    /** The whole number nearest to w n / S; of two the greater one. */
    private static int count(int w, int n, int sum) {
        int best = 0;
        for (int c = 1; c <= n; c++) {
            if (Math.abs((long) w * n - (long) c * sum) <= Math.abs((long) w * n - (long) best * sum)) {
                best = c;
            }
        }
        return best;
    }

    /** What widths count as, as figures (those beyond 9 as a sign that no pattern has). */
    private static String pattern(int[] strip, int from, int count, int n) {
        int sum = Arrays.stream(strip, from, from + count).sum();
        StringBuilder text = new StringBuilder();
        for (int i = from; i < from + count; i++) {
            int c = count(strip[i], n, sum);
            text.append(c > 9 ? "x" : Integer.toString(c));
        }
        return text.toString();
    }

    private static String figures(int[] strip) {
        String all = pattern(strip, 0, 59, 95);
        if (!(all.substring(0, 3) + all.substring(27, 32) + all.substring(56)).equals("1".repeat(11))) {
            return null;
        }
        StringBuilder figures = new StringBuilder();
        StringBuilder turns = new StringBuilder();
        for (int i = 0; i < 12; i++) {
            String four = pattern(strip, i < 6 ? 3 + 4 * i : 8 + 4 * i, 4, 7);
            int plain = Arrays.asList(Strips.FIGURES).indexOf(four);
            int turned = i < 6 ? Arrays.asList(Strips.FIGURES).indexOf(Strips.turned(four)) : -1;
            if (plain < 0 && turned < 0) {
                return null;
            }
            figures.append(plain < 0 ? turned : plain);
            turns.append(i >= 6 ? "" : plain < 0 ? "1" : "0");
        }
        int first = Arrays.asList(Strips.FIRSTS).indexOf(turns.toString());
        String told = first + figures.toString();
        int sum = 0;
        for (int i = 0; first >= 0 && i < 13; i++) {
            sum += (i % 2 == 0 ? 1 : 3) * (told.charAt(i) - '0');
        }
        return first < 0 || sum % 10 != 0 ? null : told;
    }

    private static String row(int[] strip) {
        int k = (strip.length - 7) / 6;
        int[] symbols = new int[k];
        for (int i = 0; i < k; i++) {
            symbols[i] = Strips.symbolOf(pattern(strip, 6 * i, 6, 11));
            if (symbols[i] < 0) {
                return null;
            }
        }
        boolean ends = pattern(strip, 6 * k, 7, 13).equals(Strips.STOP);
        int sum = symbols[0];
        for (int i = 1; i < k - 1; i++) {
            sum += i * symbols[i];
        }
        boolean begins = symbols[0] >= 103;
        return ends && begins && sum % 103 == symbols[k - 1] ? signs(Arrays.copyOf(symbols, k - 1)) : null;
    }

    /** What a row tells without its check symbol; null when something cannot stand in it. */
    private static String signs(int[] symbols) {
        String set = "ABC".substring(symbols[0] - 103, symbols[0] - 102);
        StringBuilder text = new StringBuilder();
        boolean shifted = false;
        for (int i = 1; i < symbols.length; i++) {
            int s = symbols[i];
            String by = !shifted ? set : set.equals("A") ? "B" : "A";
            if (s < 96 && !by.equals("C")) {
                text.append((char) (by.equals("A") && s >= 64 ? s - 64 : s + 32));
                shifted = false;
            } else if (shifted) {
                return null;
            } else if (s < 100 && set.equals("C")) {
                text.append(String.format("%02d", s));
            } else if (s == 102) {
                text.append('\u0080');
            } else if (s == 98) {
                shifted = true;
            } else if (s == 99 || (s == 100 && !set.equals("B")) || (s == 101 && !set.equals("A"))) {
                set = s == 99 ? "C" : s == 100 ? "B" : "A";
            } else {
                return null;
            }
        }
        return shifted ? null : text.toString();
    }
}
