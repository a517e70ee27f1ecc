/** Bits of segments, written as 0 and 1. */
final class Bits {
    static final String SIGNS = "0123456789ABCDEFGHIJKLMNOPQRSTUVWXYZ $%*+-./:";
    private final StringBuilder text = new StringBuilder();
    private final int version;

    Bits(int version) {
        this.version = version;
    }

    Bits put(int value, int width) {
        for (int i = width - 1; i >= 0; i--) {
            text.append((value >> i & 1) != 0 ? '1' : '0');
        }
        return this;
    }

    /** The bits that tell how many bytes a segment of a mode has. */
    int countBits(int mode) {
        int[][] bits = {{10, 9, 8}, {12, 11, 16}, {14, 13, 16}};
        return bits[version <= 9 ? 0 : version <= 26 ? 1 : 2][mode];
    }

    /** A mode and a count, without the bytes. */
    Bits head(int mode, int count) {
        return put(1 << mode, 4).put(count, countBits(mode));
    }

    Bits digits(String digits) {
        head(0, digits.length());
        for (int i = 0; i < digits.length(); i += 3) {
            String part = digits.substring(i, Math.min(i + 3, digits.length()));
            put(Integer.parseInt(part), new int[] {0, 4, 7, 10}[part.length()]);
        }
        return this;
    }

    Bits signs(String signs) {
        head(1, signs.length());
        for (int i = 0; i < signs.length(); i += 2) {
            int first = SIGNS.indexOf(signs.charAt(i));
            if (i + 1 < signs.length()) {
                put(45 * first + SIGNS.indexOf(signs.charAt(i + 1)), 11);
            } else {
                put(first, 6);
            }
        }
        return this;
    }

    Bits bytes(String bytes) {
        head(2, bytes.length());
        for (int i = 0; i < bytes.length(); i++) {
            put(bytes.charAt(i), 8);
        }
        return this;
    }

    private static boolean isOf(int mode, char c) {
        return mode == 2 || (mode == 0 ? c >= '0' && c <= '9' : SIGNS.indexOf(c) >= 0);
    }

    /** The bits of a segment of so many bytes. */
    int cost(int mode, int count) {
        int[] more = mode == 0 ? new int[] {0, 4, 7} : new int[] {0, 6, 0};
        int each = 3 - mode;
        return 4 + countBits(mode) + count / each * new int[] {10, 11, 8}[mode] + more[count % each];
    }

    /** The segments of data with the fewest bits, of these the first by their modes, byte by byte. */
    static Bits best(String data, int version) {
        Bits bits = new Bits(version);
        int n = data.length();
        // fewest[i][mode]: from byte i on, where a segment of this mode begins
        int[][] fewest = new int[n + 1][3];
        for (int i = n - 1; i >= 0; i--) {
            for (int mode = 0; mode < 3; mode++) {
                fewest[i][mode] = bits.fewest(data, i, i, mode, fewest);
            }
        }
        int open = 0;
        int mode = -1;
        for (int i = 0; i < n; i++) {
            int least = mode;
            int best = mode < 0 ? 1 << 20 : bits.fewest(data, open, i, mode, fewest);
            for (int other = 2; other >= 0; other--) {
                int begun = mode < 0 ? 0 : bits.cost(mode, i - open);
                int with = other == mode ? bits.fewest(data, open, i, mode, fewest) : begun + fewest[i][other];
                if (with < best || (with == best && other < least) || least < 0) {
                    best = with;
                    least = other;
                }
            }
            if (least != mode) {
                bits.segment(mode, data.substring(open, i));
                open = i;
                mode = least;
            }
        }
        bits.segment(mode, data.substring(open));
        return bits;
    }

    /** The fewest bits from a segment's beginning to the end of the data, if the segment has byte i, too. */
    private int fewest(String data, int open, int i, int mode, int[][] fewest) {
        int best = 1 << 20;
        for (int end = i + 1; end <= data.length() && isOf(mode, data.charAt(end - 1)); end++) {
            int rest = end == data.length() ? 0 : 1 << 20;
            for (int other = 0; end < data.length() && other < 3; other++) {
                rest = other == mode ? rest : Math.min(rest, fewest[end][other]);
            }
            best = Math.min(best, cost(mode, end - open) + rest);
        }
        return best;
    }

    private void segment(int mode, String part) {
        if (mode == 0) {
            digits(part);
        } else if (mode == 1) {
            signs(part);
        } else if (mode == 2) {
            bytes(part);
        }
    }

    /** What is read of bits that a symbol of a version holds: "fault 3", or "2 segments: " and the bytes. */
    static String told(String bits, int version) {
        StringBuilder text = new StringBuilder();
        String left = bits;
        int segments = 0;
        while (left.length() >= 4 && !left.startsWith("0000")) {
            int mode = "0001 0010 0100".indexOf(left.substring(0, 4)) / 5;
            if (!left.substring(0, 4).matches("0001|0010|0100")) {
                return "fault 3";
            }
            int countBits = new Bits(version).countBits(mode);
            if (left.length() < 4 + countBits) {
                return "fault 4";
            }
            int count = Integer.parseInt(left.substring(4, 4 + countBits), 2);
            left = left.substring(4 + countBits);
            if (text.length() + count > 3000) {
                return "fault 6";
            }
            while (count > 0) {
                int each = Math.min(count, 3 - mode);
                int width = new int[][] {{0, 4, 7, 10}, {0, 6, 11}, {0, 8}}[mode][each];
                if (left.length() < width) {
                    return "fault 4";
                }
                int number = Integer.parseInt(left.substring(0, width), 2);
                if (mode < 2 && number >= Math.pow(mode == 0 ? 10 : 45, each)) {
                    return "fault 5";
                }
                text.append(mode == 0 ? String.format("%0" + each + "d", number) : mode == 2 ? String.valueOf((char) number)
                    : (each == 2 ? SIGNS.substring(number / 45, number / 45 + 1) : "") + SIGNS.charAt(number % 45));
                left = left.substring(width);
                count -= each;
            }
            segments++;
        }
        return segments + " segments: " + text;
    }

    int length() {
        return text.length();
    }

    /** Fills with bits up to a number of them. */
    Bits upTo(int length, char bit) {
        while (text.length() < length) {
            text.append(bit);
        }
        return this;
    }

    @Override
    public String toString() {
        return text.toString();
    }
}
