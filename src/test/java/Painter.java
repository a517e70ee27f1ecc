/** Draws orders, told as Houses.orders() tells them, by the document alone: each dot of the sheet is asked for. */
final class Painter {
    /** Width, height and gap of each font. */
    private final int[][] fonts = {{8, 8, 0}, {8, 8, 0}, {8, 8, 0}, {8, 8, 0}};
    private final boolean[][][][] cells = new boolean[4][256][32][32];
    private boolean[][] dark = {};

    void font(int font, int w, int h, int gap) {
        fonts[font] = new int[] {w, h, gap};
        cells[font] = new boolean[256][32][32];
    }

    void cell(int font, int code, int r, int bits) {
        for (int c = 0; c < fonts[font][0]; c++) {
            cells[font][code][r][c] = (bits >> (fonts[font][0] - 1 - c) & 1) != 0;
        }
    }

    void begin(int w, int h) {
        dark = new boolean[h][w];
    }

    /** Draws an order; answers how many of its dots lie on the sheet, -1 when it is not drawn. */
    int draw(String order) {
        String[] told = order.split(" ", 9);
        int[] n = new int[8];
        for (int i = 0; i < 8; i++) {
            n[i] = Integer.parseInt(told[i]);
        }
        Figures.Figure figure = figure(n[0], n, told[8]);
        if (figure == null) {
            return -1;
        }
        int count = 0;
        for (int y = 0; y < dark.length; y++) {
            for (int x = 0; x < dark[y].length; x++) {
                if (figure.has(x, y)) {
                    count++;
                    dark[y][x] = n[4] == 0 || !dark[y][x];
                }
            }
        }
        return count;
    }

    private Figures.Figure figure(int kind, int[] n, String data) {
        int x = n[1];
        int y = n[2];
        return switch (kind) {
            case 0 -> stepped(n, text(n[5], n[6], n[7], data));
            case 1 -> data.length() > 64 || data.chars().anyMatch(c -> c > 128) ? null
                : stepped(n, bars(Strips.row(Strips.symbolsOf(data).chars().toArray()), n[5], n[6]));
            case 2 -> stepped(n, bars(Strips.figureRow(data), n[5], n[6]));
            case 3 -> stepped(n, square(data, n[5], n[6], n[7]));
            case 4 -> Figures.frame(x, y, n[5], n[6], n[7]);
            case 5 -> Figures.ellipse(x, y, n[5], n[6], n[7]);
            case 6 -> Figures.line(x, y, n[5], n[6], n[7]);
            default -> picture(x, y, n[5], data);
        };
    }

    /** A figure that is told by steps: those of a dot, back from it. */
    private static Figures.Figure stepped(int[] n, Figures.Figure steps) {
        return (px, py) -> {
            int right = px - n[1];
            int down = py - n[2];
            return switch (n[3]) {
                case 0 -> steps.has(right, down);
                case 1 -> steps.has(down, -right);
                case 2 -> steps.has(-right, -down);
                default -> steps.has(-down, right);
            };
        };
    }

    private Figures.Figure text(int font, int p, int q, String data) {
        int w = fonts[font][0];
        int each = w + fonts[font][2];
        return (i, j) -> {
            if (i < 0 || j < 0 || i / p / each >= data.length() || j / q >= fonts[font][1]) {
                return false;
            }
            int column = i / p % each;
            return column < w && cells[font][data.charAt(i / p / each)][j / q][column];
        };
    }

    private static Figures.Figure bars(String widths, int m, int h) {
        StringBuilder modules = new StringBuilder();
        for (int k = 0; k < widths.length(); k++) {
            modules.append((k % 2 == 0 ? "#" : ".").repeat(widths.charAt(k) - '0'));
        }
        return (i, j) -> i >= 0 && j >= 0 && j < h && i / m < modules.length() && modules.charAt(i / m) == '#';
    }

    private static Figures.Figure square(String data, int m, int level, int mask) {
        int version = 1;
        while (Bits.best(data, version).length() > 8 * Symbol.holds(version, level)) {
            version++;
        }
        String bits = Bits.best(data, version).toString();
        Symbol best = null;
        for (int k = 0; k < 8; k++) {
            Symbol symbol = Symbol.of(version, level, k, bits);
            if (mask < 0 ? best == null || symbol.penalty() < best.penalty() : k == mask) {
                best = symbol;
            }
        }
        boolean[][] modules = best.dark;
        return (i, j) -> i >= 0 && j >= 0 && i / m < modules.length && j / m < modules.length && modules[j / m][i / m];
    }

    private static Figures.Figure picture(int x, int y, int w, String data) {
        int each = (w + 7) / 8;
        return (px, py) -> {
            int c = px - x;
            int r = py - y;
            boolean within = c >= 0 && c < w && r >= 0 && (r + 1) * each <= data.length();
            return within && (data.charAt(r * each + c / 8) >> (7 - c % 8) & 1) != 0;
        };
    }

    /** As Houses.sheet() tells it. */
    String sheet() {
        StringBuilder text = new StringBuilder();
        for (int y = 0; y < dark.length; y++) {
            text.append(y == 0 ? "" : " ");
            for (boolean each : dark[y]) {
                text.append(each ? '#' : '.');
            }
        }
        return text.toString();
    }
}
