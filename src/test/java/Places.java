import java.util.ArrayList;
import java.util.List;

/** Places at which symbols can stand, by the document's words alone: every one is tried. */
final class Places {
    /** A place and its wrong dots. */
    record Place(int x, int y, int m, int v, int q, int wrong) {
        int side() {
            return m * (17 + 4 * v);
        }

        boolean meets(Place other) {
            return x < other.x + other.side() && other.x < x + side() && y < other.y + other.side() && other.y < y + side();
        }

        /** Whether it comes before another one in order. */
        boolean isBefore(Place other) {
            int[] one = {y, x, m, v, q};
            int[] two = {other.y, other.x, other.m, other.v, other.q};
            return java.util.Arrays.compare(one, two) < 0;
        }

        boolean isBetterThan(Place other) {
            return wrong < other.wrong || (wrong == other.wrong && isBefore(other));
        }
    }

    private Places() {
    }

    static boolean[][] sheet(LabelHouse house) {
        String[] rows = Houses.sheet(house).split(" ");
        boolean[][] dark = new boolean[rows.length][rows[0].length()];
        for (int y = 0; y < rows.length; y++) {
            for (int x = 0; x < rows[y].length(); x++) {
                dark[y][x] = rows[y].charAt(x) == '#';
            }
        }
        return dark;
    }

    /** The marks of a version: x, y, and 1 for dark. */
    static List<int[]> marks(int v) {
        int side = 17 + 4 * v;
        List<int[]> marks = new ArrayList<>();
        int[][] middles = {{3, 3}, {side - 4, 3}, {3, side - 4}};
        for (int y = 0; y < side; y++) {
            for (int x = 0; x < side; x++) {
                int mark = -1;
                for (int[] middle : middles) {
                    int d = Math.max(Math.abs(x - middle[0]), Math.abs(y - middle[1]));
                    if (d <= 4) {
                        mark = d == 2 || d == 4 ? 0 : 1;
                    }
                }
                if (y == 6 && x >= 8 && x <= side - 9) {
                    mark = x % 2 == 0 ? 1 : 0;
                } else if (x == 6 && y >= 8 && y <= side - 9) {
                    mark = y % 2 == 0 ? 1 : 0;
                } else if (x == 8 && y == side - 8) {
                    mark = 1;
                }
                if (mark >= 0) {
                    marks.add(new int[] {x, y, mark});
                }
            }
        }
        return marks;
    }

    /** The block in which module (i, j) lies. */
    static int[] block(int i, int j, int side, int q) {
        int last = side - 1;
        return switch (q) {
            case 0 -> new int[] {i, j};
            case 1 -> new int[] {last - j, i};
            case 2 -> new int[] {last - i, last - j};
            default -> new int[] {j, last - i};
        };
    }

    /** The wrong dots of a place, or more than the limit when there are more. */
    static int wrong(boolean[][] dark, List<int[]> marks, int x, int y, int m, int v, int q, int limit) {
        int wrong = 0;
        for (int[] mark : marks) {
            int[] block = block(mark[0], mark[1], 17 + 4 * v, q);
            for (int row = 0; row < m; row++) {
                for (int column = 0; column < m; column++) {
                    wrong += dark[y + m * block[1] + row][x + m * block[0] + column] == (mark[2] == 1) ? 0 : 1;
                }
            }
            if (wrong > limit) {
                return wrong;
            }
        }
        return wrong;
    }

    /** All places at which a symbol can stand, in order. */
    static List<Place> all(boolean[][] dark, int least, int most, int limit) {
        List<Place> places = new ArrayList<>();
        int h = dark.length;
        int w = dark[0].length;
        for (int m = least; m <= most; m++) {
            for (int v = 1; v <= 40 && m * (17 + 4 * v) <= Math.min(w, h); v++) {
                List<int[]> marks = marks(v);
                int side = m * (17 + 4 * v);
                for (int y = 0; y + side <= h; y++) {
                    for (int x = 0; x + side <= w; x++) {
                        for (int q = 0; q < 4; q++) {
                            int wrong = wrong(dark, marks, x, y, m, v, q, limit);
                            if (wrong <= limit) {
                                places.add(new Place(x, y, m, v, q, wrong));
                            }
                        }
                    }
                }
            }
        }
        places.sort((a, b) -> a.isBefore(b) ? -1 : b.isBefore(a) ? 1 : 0);
        return places;
    }

    static List<Place> leaders(List<Place> places) {
        List<Place> leaders = new ArrayList<>();
        for (Place place : places) {
            boolean leads = true;
            for (Place other : places) {
                leads &= other == place || !other.meets(place) || !other.isBetterThan(place);
            }
            if (leads) {
                leaders.add(place);
            }
        }
        return leaders;
    }

    /** What scan() and found() ought to tell, as a text. */
    static String due(boolean[][] dark, int least, int most, int limit) {
        List<Place> places = all(dark, least, most, limit);
        if (places.size() > 300) {
            return "NONE";
        }
        StringBuilder text = new StringBuilder();
        for (Place p : leaders(places)) {
            text.append(p.x).append(' ').append(p.y).append(' ').append(p.m).append(' ').append(p.v).append(' ').append(p.q)
                .append(' ').append(p.wrong).append('|');
        }
        return text.toString();
    }

    /** What scan() and found() tell. */
    static String told(LabelHouse house, int least, int most, int limit) {
        int count = house.scan(least, most, limit);
        StringBuilder text = new StringBuilder();
        for (int k = 0; k < count; k++) {
            for (int what = 0; what < 6; what++) {
                text.append(house.found(k, what)).append(what < 5 ? ' ' : '|');
            }
        }
        // behind the last one there is none
        return house.found(Math.max(count, 0), 0) != LabelHouse.NONE ? "more" : count == LabelHouse.NONE ? "NONE" : text.toString();
    }
}
