/** Figures of the sheet by the document's words: whether a dot is one of them. */
final class Figures {
    /** Whether a dot is one of a figure's. */
    interface Figure {
        boolean has(int x, int y);
    }

    private Figures() {
    }

    private static boolean in(int value, int from, int to) {
        return value >= from && value <= to;
    }

    static Figure frame(int x, int y, int w, int h, int t) {
        return (px, py) -> in(px, x, x + w - 1) && in(py, y, y + h - 1)
            && !(in(px, x + t, x + w - 1 - t) && in(py, y + t, y + h - 1 - t));
    }

    static Figure line(int x, int y, int dx, int dy, int t) {
        return (px, py) -> isNear(px - x, py - y, dx, dy, t);
    }

    /** By whole numbers: four times the square of the distance against that of t. */
    private static boolean isNear(long px, long py, long dx, long dy, long t) {
        long along = px * dx + py * dy;
        long whole = dx * dx + dy * dy;
        if (along <= 0) {
            return 4 * (px * px + py * py) <= t * t;
        }
        if (along >= whole) {
            return isNear(px - dx, py - dy, 0, 0, t);
        }
        long across = px * dy - py * dx;
        return 4 * across * across <= t * t * whole;
    }

    static Figure ellipse(int x, int y, int w, int h, int t) {
        return (px, py) -> {
            long u = 2L * (px - x) - (w - 1);
            long v = 2L * (py - y) - (h - 1);
            boolean hole = w - 2 * t > 0 && h - 2 * t > 0 && inEllipse(u, v, w - 2 * t, h - 2 * t);
            return inEllipse(u, v, w, h) && !hole;
        };
    }

    private static boolean inEllipse(long u, long v, long w, long h) {
        return u * h * u * h + v * w * v * w <= w * h * w * h;
    }
}
