import java.util.ArrayList;
import java.util.HashMap;
import java.util.List;
import java.util.Map;

/** Reads texts of labels by the document alone, with strings and lists, and makes each copy's fields anew. */
final class Reader {
    private static final String PLACE = "-4096 4096 0";
    private static final String OF_TEXT = "0 3 0,1 10 1,1 10 1,0 3 0";
    private static final String OF_FRAME = "1 2048 1,1 2048 1,1 200 1";
    /** The numbers of each letter: the least, the most, and what it is when left out. */
    private static final Map<Character, String> NUMBERS = new HashMap<>();

    static {
        NUMBERS.put('S', "0 7 0");
        NUMBERS.put('K', "0 9 0");
        NUMBERS.put('L', "1 512 0,1 512 0");
        NUMBERS.put('E', "");
        NUMBERS.put('H', PLACE + "," + PLACE);
        NUMBERS.put('C', "1 12 1");
        NUMBERS.put('D', OF_TEXT);
        NUMBERS.put('U', "0 7 0");
        NUMBERS.put('O', PLACE + "," + PLACE);
        NUMBERS.put('R', "");
        NUMBERS.put('X', "");
        NUMBERS.put('V', "0 9 0");
        NUMBERS.put('#', "-99 99 0");
        NUMBERS.put('T', OF_TEXT);
        NUMBERS.put('W', "1 99 0,0 999 0,0 2 0,0 999 0");
        NUMBERS.put('B', "1 50 2,1 2048 50,0 3 0,0 1 0");
        NUMBERS.put('N', "1 50 2,1 2048 50,0 3 0");
        NUMBERS.put('Q', "1 50 2,0 3 1,-1 7 -1,0 3 0");
        NUMBERS.put('F', OF_FRAME);
        NUMBERS.put('I', OF_FRAME);
        NUMBERS.put('G', PLACE + "," + PLACE + ",1 200 1");
        NUMBERS.put('P', "1 1024 8");
        NUMBERS.put(';', "");
    }

    /** A fault of the tape, which ends its reading. */
    private static final class Fault extends RuntimeException {
        private static final long serialVersionUID = 1;
        private final int number;
        private final int place;

        Fault(int number, int place) {
            this.number = number;
            this.place = place;
        }
    }

    private static final class Field implements Cloneable {
        private int x;
        private int y;
        private char kind;
        private int[] numbers = {};
        private String data = "";
        private boolean over;
        private Integer step;
        private int[] home = {};
        private int[] texts = {};

        Field as(String newData) {
            try {
                Field other = (Field) clone();
                other.data = newData;
                return other;
            } catch (CloneNotSupportedException e) {
                throw new IllegalStateException(e);
            }
        }
    }

    final List<String> labels = new ArrayList<>();
    final List<String> orders = new ArrayList<>();
    int fault;
    int place = -1;
    private final Map<Integer, String> forms = new HashMap<>();
    private final Map<Integer, String> variables = new HashMap<>();
    private boolean inLabel;
    private int commands;
    private int[] size = {};
    private int[] home = {};
    private int[] texts = {};
    private int copies;
    private Field field = new Field();
    private List<Field> fields = new ArrayList<>();
    private int drafted;
    /** What is read, and where in it. */
    private String text = "";
    private int at;

    /** Answers what read() does. */
    int read(String tape) {
        labels.clear();
        orders.clear();
        inLabel = false;
        commands = 0;
        fault = 0;
        place = -1;
        try {
            text = tape;
            at = 0;
            follow(0, 0);
            if (inLabel) {
                throw new Fault(11, tape.length());
            }
            return labels.size();
        } catch (Fault met) {
            fault = met.number;
            place = met.place;
            labels.clear();
            orders.clear();
            return -1;
        }
    }

    private void follow(int depth, int outermost) {
        while (true) {
            while (at < text.length() && text.charAt(at) <= 32) {
                at++;
            }
            if (at == text.length()) {
                return;
            }
            command(depth, depth == 0 ? at : outermost);
        }
    }

    private void command(int depth, int where) {
        if (text.charAt(at) != '^') {
            throw new Fault(1, where);
        }
        commands++;
        if (at + 1 == text.length() || !NUMBERS.containsKey(text.charAt(at + 1))) {
            throw new Fault(2, where);
        }
        char letter = text.charAt(at + 1);
        at += 2;
        boolean stands = letter == 'K' || ("SL".indexOf(letter) < 0) == inLabel;
        if (!stands || (letter == 'E' && depth > 0) || (letter == ';' && field.kind == 0)) {
            throw new Fault(3, where);
        }
        int[] n = numbers(letter, where);
        String data = letter == 'X' || letter == 'K' ? data(where) : "";
        String form = letter == 'S' ? form(where) : "";
        if (letter == ';') {
            field.home = home;
            field.texts = texts;
            check(where);
        }
        if (letter == 'U' && (forms.getOrDefault(n[0], "").isEmpty() || depth == 4)) {
            throw new Fault(9, where);
        }
        boolean full = letter == ';' && drafted + ordersOf(field).size() > 120;
        boolean many = letter == 'E' && (labels.size() + copies > 12 || orders.size() + copies * drafted > 120);
        if (full || many || commands == 2000) {
            throw new Fault(10, where);
        }
        perform(letter, n, data, form);
        if (letter == 'U') {
            String outer = text;
            int behind = at;
            text = forms.get(n[0]);
            at = 0;
            follow(depth + 1, where);
            text = outer;
            at = behind;
        }
    }

    private int[] numbers(char letter, int where) {
        String told = NUMBERS.get(letter);
        if (told.isEmpty()) {
            return new int[0];
        }
        String[] ranges = told.split(",");
        int[] n = new int[ranges.length];
        for (int i = 0; i < n.length; i++) {
            n[i] = letter == 'T' ? texts[i] : Integer.parseInt(ranges[i].split(" ")[2]);
        }
        for (int i = 0; i < n.length; i++) {
            int from = at;
            if (at < text.length() && text.charAt(at) == '-') {
                at++;
            }
            while (at < text.length() && "0123456789".indexOf(text.charAt(at)) >= 0) {
                at++;
            }
            String digits = text.substring(from, at);
            if (!digits.matches("(-?[0-9]{1,5})?")) {
                throw new Fault(4, where);
            }
            n[i] = digits.isEmpty() ? n[i] : Integer.parseInt(digits);
            boolean comma = at < text.length() && text.charAt(at) == ',';
            if (letter == 'K' ? !comma : comma && i == n.length - 1) {
                throw new Fault(4, where);
            }
            if (!comma) {
                break;
            }
            at++;
        }
        for (int i = 0; i < n.length; i++) {
            String[] range = ranges[i].split(" ");
            if (n[i] < Integer.parseInt(range[0]) || n[i] > Integer.parseInt(range[1])) {
                throw new Fault(5, where);
            }
        }
        return n;
    }

    private String data(int where) {
        int end = text.indexOf('^', at);
        String raw = text.substring(at, end < 0 ? text.length() : end);
        at += raw.length();
        if (!raw.matches("(?s)(?:[^_]++|_[0-9A-Fa-f]{2})*+")) {
            throw new Fault(6, where);
        }
        StringBuilder data = new StringBuilder();
        for (int i = 0; i < raw.length(); i++) {
            if (raw.charAt(i) == '_') {
                data.append((char) Integer.parseInt(raw.substring(i + 1, i + 3), 16));
                i += 2;
            } else {
                data.append(raw.charAt(i));
            }
        }
        if (data.length() > 200) {
            throw new Fault(6, where);
        }
        return data.toString();
    }

    private String form(int where) {
        int end = text.indexOf("^Z", at);
        if (end < 0 || end - at > 400) {
            throw new Fault(7, where);
        }
        String form = text.substring(at, end);
        at = end + 2;
        return form;
    }

    /** Fault 8, for the field that ends there. */
    private void check(int where) {
        String data = field.data;
        boolean right = "FIG".indexOf(field.kind) >= 0 || !data.isEmpty();
        right &= field.kind != 'N' || data.matches("[0-9]{12}");
        right &= field.step == null || data.matches("(?s).*[0-9]");
        if (field.kind == 'P') {
            int row = (field.numbers[0] + 7) / 8 * 2;
            right &= data.matches("[0-9A-Fa-f]*") && data.length() % 2 == 0 && data.length() % row == 0;
        }
        right &= field.kind != 'W' || lines(data, field.numbers[0]).size() <= 20;
        if (right) {
            for (String order : ordersOf(field)) {
                String[] parts = order.split(" ");
                right &= isPlace(Integer.parseInt(parts[1])) && isPlace(Integer.parseInt(parts[2]));
            }
        }
        if (field.kind == 'G') {
            right &= isPlace(home[0] + field.x + field.numbers[0]) && isPlace(home[1] + field.y + field.numbers[1]);
        }
        if (!right) {
            throw new Fault(8, where);
        }
    }

    private static boolean isPlace(int place) {
        return place >= -4096 && place <= 4096;
    }

    private void perform(char letter, int[] n, String data, String form) {
        switch (letter) {
            case 'S' -> forms.put(n[0], form);
            case 'K' -> variables.put(n[0], data);
            case 'L' -> begin(n);
            case 'E' -> end();
            case 'H' -> home = n;
            case 'C' -> copies = n[0];
            case 'D' -> texts = n;
            case 'U' -> { }
            case 'O' -> {
                field.x = n[0];
                field.y = n[1];
            }
            case 'R' -> field.over = true;
            case 'X' -> field.data = data;
            case 'V' -> field.data = variables.getOrDefault(n[0], "");
            case '#' -> field.step = n[0];
            case ';' -> {
                fields.add(field);
                drafted += ordersOf(field).size();
                field = new Field();
            }
            default -> {
                field.kind = letter;
                field.numbers = n;
            }
        }
    }

    private void begin(int[] n) {
        inLabel = true;
        size = n;
        home = new int[] {0, 0};
        texts = new int[] {0, 1, 1, 0};
        copies = 1;
        field = new Field();
        fields = new ArrayList<>();
        drafted = 0;
    }

    private void end() {
        inLabel = false;
        for (int c = 0; c < copies; c++) {
            labels.add(size[0] + " " + size[1] + " " + orders.size() + " " + drafted);
            for (Field each : fields) {
                orders.addAll(ordersOf(each.as(counted(each, c))));
            }
        }
    }

    private static String counted(Field field, int copy) {
        if (field.step == null) {
            return field.data;
        }
        int from = field.data.length();
        while (from > 0 && field.data.length() - from < 9 && field.data.substring(from - 1).matches("[0-9]+")) {
            from--;
        }
        String digits = field.data.substring(from);
        long value = Long.parseLong(digits) + (long) field.step * copy;
        long whole = Long.parseLong("1" + "0".repeat(digits.length()));
        while (value < 0) {
            value += whole;
        }
        String written = "0".repeat(9) + value;
        return field.data.substring(0, from) + written.substring(written.length() - digits.length());
    }

    private static List<String> lines(String data, int n) {
        List<String> lines = new ArrayList<>();
        for (String piece : data.split("\n", -1)) {
            String rest = piece;
            while (rest.length() > n) {
                int blank = rest.substring(0, n + 1).lastIndexOf(' ');
                lines.add(rest.substring(0, blank < 0 ? n : blank));
                rest = rest.substring(blank < 0 ? n : blank + 1);
            }
            lines.add(rest);
        }
        return lines;
    }

    /** The orders of a field, each as Houses.orders() tells it. */
    private static List<String> ordersOf(Field f) {
        List<String> made = new ArrayList<>();
        int[] n = f.numbers;
        switch (f.kind) {
            case 'T' -> made.add(order(f, 0, n[3], 0, 0, n[0], n[1], n[2], f.data));
            case 'B' -> {
                made.add(order(f, 1, n[2], 0, 0, n[0], n[1], 0, f.data));
                if (n[3] == 1) {
                    made.add(order(f, 0, n[2], 0, n[1] + 3, f.texts[0], f.texts[1], f.texts[2], f.data));
                }
            }
            case 'N' -> made.add(order(f, 2, n[2], 0, 0, n[0], n[1], 0, f.data));
            case 'Q' -> made.add(order(f, 3, n[3], 0, 0, n[0], n[1], n[2], f.data));
            case 'F' -> made.add(order(f, 4, 0, 0, 0, n[0], n[1], n[2], ""));
            case 'I' -> made.add(order(f, 5, 0, 0, 0, n[0], n[1], n[2], ""));
            case 'G' -> made.add(order(f, 6, 0, 0, 0, n[0], n[1], n[2], ""));
            case 'P' -> made.add(order(f, 7, 0, 0, 0, n[0], 0, 0, ofHex(f.data)));
            default -> {
                for (String line : lines(f.data, n[0])) {
                    int spare = n[0] - line.length();
                    int i = n[2] == 0 ? 0 : n[2] == 1 ? n[3] * spare : n[3] * (spare / 2);
                    made.add(order(f, 0, f.texts[3], i, made.size() * n[1], f.texts[0], f.texts[1], f.texts[2], line));
                }
            }
        }
        return made;
    }

    private static String ofHex(String digits) {
        StringBuilder bytes = new StringBuilder();
        for (int i = 0; i + 1 < digits.length(); i += 2) {
            bytes.append((char) Integer.parseInt(digits.substring(i, i + 2), 16));
        }
        return bytes.toString();
    }

    private static String order(Field f, int kind, int r, int i, int j, int a, int b, int c, String data) {
        int x = f.home[0] + f.x;
        int y = f.home[1] + f.y;
        int[][] steps = {{x + i, y + j}, {x - j, y + i}, {x - i, y - j}, {x + j, y - i}};
        return kind + " " + steps[r][0] + " " + steps[r][1] + " " + r + " " + (f.over ? 2 : 0)
            + " " + a + " " + b + " " + c + " " + data;
    }
}
