import java.util.Arrays;

/** The whole stack of a label printer; ../shared/DOC.md tells what every call promises. */
public final class LabelHouse {
    public static final int NONE = -1;

    /** The bytes that one reading can have at the most. */
    private static final int READ_MOST = 3000;

    private final Tape tape;
    private final Orders orders;
    private final Setter setter;
    private final Sheet sheet;
    private final Pen pen;
    private final Bars strips;
    private final Grid grid;
    private final Finder finder;
    private final int[] drawnDots;
    private int drawnOrders;
    private final int[] lastRead;
    private final byte[] readBytes;
    private int readSize;

    public LabelHouse() {
        tape = new Tape();
        orders = new Orders(Orders.MOST);
        setter = new Setter(tape, orders);
        sheet = new Sheet();
        strips = new Bars();
        grid = new Grid();
        pen = new Pen(sheet, strips, grid);
        finder = new Finder(sheet);
        drawnDots = new int[Orders.MOST];
        lastRead = new int[] {NONE, NONE, NONE, NONE, NONE, NONE, 0};
        readBytes = new byte[READ_MOST];
    }

    public int feed(int n, long bytes) throws IllegalArgumentException {
        if (n < 1 || n > 8) {
            throw new IllegalArgumentException();
        }
        return tape.append(n, bytes);
    }

    public int wipe() {
        int had = tape.size;
        tape.size = 0;
        return had;
    }

    public void font(int font, int w, int h, int gap) throws IllegalArgumentException {
        if (font < 0 || font > 3 || w < 1 || w > 32 || h < 1 || h > 32 || gap < 0 || gap > 32) {
            throw new IllegalArgumentException();
        }
        pen.newFont(font, w, h, gap);
    }

    public void cell(int font, int code, int r, int bits) throws IllegalArgumentException, IndexOutOfBoundsException {
        if (font < 0 || font > 3 || code < 0 || code > 255) {
            throw new IllegalArgumentException();
        }
        if (r < 0 || r >= pen.rowsOf(font)) {
            throw new IndexOutOfBoundsException();
        }
        pen.newRow(font, code, r, bits);
    }

    public int read() {
        return setter.finish(setter.followAll());
    }

    public int fault() {
        return setter.metFault;
    }

    public int place() {
        return setter.metPlace;
    }

    public int label(int k, int what) throws IllegalArgumentException {
        if (what < 0 || what > 3) {
            throw new IllegalArgumentException();
        }
        return k < 0 || k >= setter.labels ? NONE : setter.labelRows[4 * k + what];
    }

    public int order(int k, int what) throws IllegalArgumentException, IndexOutOfBoundsException {
        if (what < 0 || what > 8) {
            throw new IllegalArgumentException();
        }
        if (k < 0 || k >= orders.count) {
            throw new IndexOutOfBoundsException();
        }
        return orders.value(k, what);
    }

    public long data(int k, int i) throws IndexOutOfBoundsException {
        if (k < 0 || k >= orders.count) {
            throw new IndexOutOfBoundsException();
        }
        return eightBytes(orders.bytes, k * Orders.BYTES, orders.value(k, Orders.SIZE), i);
    }

    public int print(int k) throws IndexOutOfBoundsException {
        if (k < 0 || k >= setter.labels) {
            throw new IndexOutOfBoundsException();
        }
        sheet.renew(setter.labelRows[4 * k], setter.labelRows[4 * k + 1]);
        finder.leaders = 0;
        int first = setter.labelRows[4 * k + 2];
        drawnOrders = setter.labelRows[4 * k + 3];
        int done = 0;
        for (int i = 0; i < drawnOrders; i++) {
            drawnDots[i] = pen.follow(orders, first + i);
            if (drawnDots[i] != NONE) {
                done++;
            }
        }
        return done;
    }

    public int drawn(int i) {
        return i < 0 || i >= drawnOrders ? NONE : drawnDots[i];
    }

    public int spoil(int x, int y, long bits) {
        return sheet.flip(x, y, bits);
    }

    public void turn(int quarter) throws IllegalArgumentException {
        if (quarter < 0 || quarter > 3) {
            throw new IllegalArgumentException();
        }
        finder.leaders = 0;
        sheet.rotate(quarter);
    }

    public int told(int what) throws IllegalArgumentException {
        if (what < 0 || what > 6) {
            throw new IllegalArgumentException();
        }
        switch (what) {
            case 0:
                return sheet.width;
            case 1:
                return sheet.height;
            case 2:
                return sheet.edgeColumn(1);
            case 3:
                return sheet.edgeRow(1);
            case 4:
                return sheet.edgeColumn(-1);
            case 5:
                return sheet.edgeRow(-1);
            default:
                return sheet.darkCount();
        }
    }

    public long dots(int x, int y) {
        return sheet.wordFrom(x, y);
    }

    public int run(int x, int y, int i, boolean down) throws IndexOutOfBoundsException {
        if (!sheet.has(x, y)) {
            throw new IndexOutOfBoundsException();
        }
        int count = sheet.takeRuns(x, y, down, strips.runs);
        return i < 0 || i >= count ? NONE : strips.runs[i];
    }

    public int scan(int least, int most, int limit) throws IllegalArgumentException {
        if (least < 1 || least > 16 || most < least || most > 16 || limit < 0 || limit > 500) {
            throw new IllegalArgumentException();
        }
        return finder.search(least, most, limit);
    }

    public int found(int k, int what) throws IllegalArgumentException {
        if (what < 0 || what > 5) {
            throw new IllegalArgumentException();
        }
        return k < 0 || k >= finder.leaders ? NONE : finder.part(k, what);
    }

    public int decode(int k) throws IndexOutOfBoundsException {
        if (k < 0 || k >= finder.leaders) {
            throw new IndexOutOfBoundsException();
        }
        forgetReading();
        grid.begin(finder.part(k, 3));
        finder.fill(k, grid);
        int fault = grid.understand(readBytes);
        lastRead[6] = fault;
        if (fault != 0) {
            return NONE;
        }
        lastRead[0] = 0;
        lastRead[1] = grid.level;
        lastRead[2] = grid.mask;
        lastRead[3] = grid.mended;
        lastRead[4] = grid.segments.count;
        readSize = grid.segments.size;
        return readSize;
    }

    public int bars(int x, int y, boolean down) throws IndexOutOfBoundsException {
        if (!sheet.has(x, y)) {
            throw new IndexOutOfBoundsException();
        }
        forgetReading();
        if (!sheet.isDark(x, y)) {
            return NONE;
        }
        int size = strips.understand(sheet.takeRuns(x, y, down, strips.runs), readBytes);
        if (size == NONE) {
            return NONE;
        }
        lastRead[0] = strips.ofFigures ? 2 : 1;
        lastRead[5] = strips.fromBack ? 1 : 0;
        readSize = size;
        return size;
    }

    public int reading(int what) throws IllegalArgumentException {
        if (what < 0 || what > 6) {
            throw new IllegalArgumentException();
        }
        return lastRead[what];
    }

    public long got(int i) {
        return eightBytes(readBytes, 0, readSize, i);
    }

    /** Leaves the fault of the last symbol alone: bars() must not change it. */
    private void forgetReading() {
        Arrays.fill(lastRead, 0, 6, NONE);
        readSize = 0;
    }

    private static long eightBytes(byte[] bytes, int from, int size, int i) {
        long answer = 0;
        for (int j = 0; j < 8; j++) {
            // i may be any int, so the place can lie beyond what an int holds
            long at = (long) i + j;
            if (at >= 0 && at < size) {
                answer |= (long) (bytes[from + (int) at] & 255) << (8 * j);
            }
        }
        return answer;
    }

    /** The tape, the forms and the variables, and a cursor that takes them apart. */
    private static final class Tape {
        static final int MOST = 4096;
        static final int FORM_MOST = 400;
        static final int DATA_MOST = 200;
        static final int DEEPEST = 4;

        final byte[] bytes = new byte[MOST];
        int size;
        final byte[] forms = new byte[8 * FORM_MOST];
        final int[] formSizes = new int[8];
        final byte[] variables = new byte[10 * DATA_MOST];
        final int[] variableSizes = new int[10];
        /** How many forms are open; at depth 0 the tape itself is read. */
        int depth;
        final int[] open = new int[DEEPEST + 1];
        final int[] at = new int[DEEPEST + 1];
        final int[] numbers = new int[4];
        final byte[] data = new byte[DATA_MOST];
        int dataSize;

        int append(int n, long value) {
            if (size + n > MOST) {
                return NONE;
            }
            for (int i = 0; i < n; i++) {
                bytes[size + i] = (byte) (value >>> (8 * i));
            }
            size += n;
            return size;
        }

        void rewind() {
            depth = 0;
            at[0] = 0;
        }

        void enterForm(int k) {
            depth++;
            open[depth] = k;
            at[depth] = 0;
        }

        /** The byte under the cursor; NONE where the tape or the form ends. */
        int next() {
            int p = at[depth];
            if (depth == 0) {
                return p < size ? bytes[p] & 255 : NONE;
            }
            int k = open[depth];
            return p < formSizes[k] ? forms[k * FORM_MOST + p] & 255 : NONE;
        }

        void pass() {
            at[depth]++;
        }

        void passBlanks() {
            for (int i = 0; i < MOST && next() >= 0 && next() <= 32; i++) {
                pass();
            }
        }

        /** Numbers that are left out stay as they were set before. */
        boolean takeNumbers(int most) {
            for (int i = 0; i < most; i++) {
                if (!takeNumber(i)) {
                    return false;
                }
                if (next() != ',') {
                    return true;
                }
                if (i == most - 1) {
                    return false;
                }
                pass();
            }
            return true;
        }

        boolean takeNumberAndComma() {
            if (!takeNumber(0) || next() != ',') {
                return false;
            }
            pass();
            return true;
        }

        private boolean takeNumber(int i) {
            boolean minus = next() == '-';
            if (minus) {
                pass();
            }
            int value = 0;
            int digits = 0;
            while (digits < 6 && isDigit(next())) {
                value = 10 * value + next() - '0';
                pass();
                digits++;
            }
            if (digits > 5 || (minus && digits == 0)) {
                return false;
            }
            if (digits > 0) {
                numbers[i] = minus ? -value : value;
            }
            return true;
        }

        boolean takeData() {
            dataSize = 0;
            for (int i = 0; i <= MOST; i++) {
                int b = next();
                if (b == NONE || b == '^') {
                    return true;
                }
                pass();
                if (b == '_') {
                    b = takeHexPair();
                }
                if (b == NONE || dataSize == DATA_MOST) {
                    return false;
                }
                data[dataSize] = (byte) b;
                dataSize++;
            }
            return true;
        }

        private int takeHexPair() {
            int high = hexValue(next());
            if (high == NONE) {
                return NONE;
            }
            pass();
            int low = hexValue(next());
            if (low == NONE) {
                return NONE;
            }
            pass();
            return 16 * high + low;
        }

        /** Where the form that begins at the cursor ends; NONE when it has no end or is too long. */
        int endOfForm() {
            for (int p = at[0]; p + 1 < size; p++) {
                if (bytes[p] == '^' && bytes[p + 1] == 'Z') {
                    return p - at[0] > FORM_MOST ? NONE : p;
                }
            }
            return NONE;
        }

        void keepForm(int k, int end) {
            int length = end - at[0];
            System.arraycopy(bytes, at[0], forms, k * FORM_MOST, length);
            formSizes[k] = length;
            at[0] = end + 2;
        }

        void keepVariable(int k) {
            System.arraycopy(data, 0, variables, k * DATA_MOST, dataSize);
            variableSizes[k] = dataSize;
        }

        static boolean isDigit(int b) {
            return b >= '0' && b <= '9';
        }

        static int hexValue(int b) {
            if (b >= '0' && b <= '9') {
                return b - '0';
            }
            if (b >= 'A' && b <= 'F') {
                return b - 'A' + 10;
            }
            return b >= 'a' && b <= 'f' ? b - 'a' + 10 : NONE;
        }
    }

    /** Rows of orders: those of the label that is being read, or all that were read. */
    private static final class Orders {
        static final int MOST = 120;
        static final int BYTES = 200;
        static final int STRIDE = 14;
        // up to SIZE the places are those that order() is asked for
        static final int KIND = 0;
        static final int X = 1;
        static final int Y = 2;
        static final int QUARTER = 3;
        static final int WAY = 4;
        static final int A = 5;
        static final int B = 6;
        static final int C = 7;
        static final int SIZE = 8;
        static final int FROM = 9;
        static final int SLOT = 10;
        static final int COUNTS = 11;
        static final int STEP = 12;
        static final int WHOLE = 13;

        final int[] rows;
        final byte[] bytes;
        final byte[] counted = new byte[BYTES];
        int count;

        Orders(int room) {
            rows = new int[room * STRIDE];
            bytes = new byte[room * BYTES];
        }

        int value(int k, int what) {
            return rows[k * STRIDE + what];
        }

        int byteAt(int k, int i) {
            return bytes[k * BYTES + i] & 255;
        }

        void lay(int k, int kind, int x, int y, int quarter) {
            int row = k * STRIDE;
            Arrays.fill(rows, row, row + STRIDE, 0);
            rows[row + KIND] = kind;
            rows[row + X] = x;
            rows[row + Y] = y;
            rows[row + QUARTER] = quarter;
        }

        /** Moves an order's place by the steps (i, j). */
        void move(int k, int i, int j) {
            int row = k * STRIDE;
            int quarter = rows[row + QUARTER];
            rows[row + X] += quarter == 0 ? i : quarter == 1 ? -j : quarter == 2 ? -i : j;
            rows[row + Y] += quarter == 0 ? j : quarter == 1 ? i : quarter == 2 ? -j : -i;
        }

        void number(int k, int a, int b, int c) {
            rows[k * STRIDE + A] = a;
            rows[k * STRIDE + B] = b;
            rows[k * STRIDE + C] = c;
        }

        /** The part of the field's data, which lies whole in the row of a slot, that is the order's. */
        void slice(int k, int slot, int from, int size) {
            rows[k * STRIDE + SLOT] = slot;
            rows[k * STRIDE + FROM] = from;
            rows[k * STRIDE + SIZE] = size;
        }

        static boolean inRange(int place) {
            return place >= -4096 && place <= 4096;
        }

        /** Makes an order out of order i of a label's draft, for one copy. */
        void addCopy(Orders draft, int i, int copy) {
            System.arraycopy(draft.rows, i * STRIDE, rows, count * STRIDE, STRIDE);
            int whole = draft.value(i, WHOLE);
            System.arraycopy(draft.bytes, draft.value(i, SLOT) * BYTES, counted, 0, whole);
            if (draft.value(i, COUNTS) != 0) {
                countOn(whole, (long) draft.value(i, STEP) * copy);
            }
            int size = draft.value(i, SIZE);
            int at = count * BYTES;
            if (draft.value(i, KIND) == 7) {
                for (int p = 0; p < size; p++) {
                    int high = Tape.hexValue(counted[2 * p]);
                    bytes[at + p] = (byte) (16 * high + Tape.hexValue(counted[2 * p + 1]));
                }
            } else {
                System.arraycopy(counted, draft.value(i, FROM), bytes, at, size);
            }
            count++;
        }

        private void countOn(int whole, long more) {
            int first = whole;
            long value = 0;
            long range = 1;
            while (first > 0 && whole - first < 9 && counted[first - 1] >= '0' && counted[first - 1] <= '9') {
                first--;
                value += range * (counted[first] - '0');
                range *= 10;
            }
            value = Math.floorMod(value + more, range);
            for (int p = whole - 1; p >= first; p--) {
                counted[p] = (byte) ('0' + value % 10);
                value /= 10;
            }
        }
    }

    /** The field that is being read, until its orders are made. */
    private static final class Field {
        static final int NO_KIND = -1;
        static final int TEXT = 0;
        static final int BARS = 1;
        static final int FIGURES = 2;
        static final int SQUARE = 3;
        static final int LINE = 6;
        static final int PICTURE = 7;
        static final int BLOCK = 8;
        static final int LINES_MOST = 20;

        int originX;
        int originY;
        int kind;
        final int[] numbers = new int[4];
        boolean over;
        boolean counts;
        int step;
        final byte[] bytes = new byte[Tape.DATA_MOST];
        int size;
        int lines;
        final int[] lineFrom = new int[LINES_MOST];
        final int[] lineSize = new int[LINES_MOST];

        void clear() {
            originX = 0;
            originY = 0;
            kind = NO_KIND;
            over = false;
            counts = false;
            step = 0;
            size = 0;
        }

        void become(int newKind, int[] given) {
            kind = newKind;
            System.arraycopy(given, 0, numbers, 0, 4);
        }

        void hold(byte[] from, int start, int length) {
            System.arraycopy(from, start, bytes, 0, length);
            size = length;
        }

        /** Whether its data is such that it can be. */
        boolean hasItsData() {
            if (counts && (size == 0 || !Tape.isDigit(bytes[size - 1]))) {
                return false;
            }
            if (kind > SQUARE && kind < PICTURE) {
                return true;
            }
            if (size == 0 || (kind == FIGURES && (size != 12 || !allDigits()))) {
                return false;
            }
            return kind != PICTURE || isPicture();
        }

        private boolean allDigits() {
            for (int i = 0; i < size; i++) {
                if (!Tape.isDigit(bytes[i])) {
                    return false;
                }
            }
            return true;
        }

        private boolean isPicture() {
            for (int i = 0; i < size; i++) {
                if (Tape.hexValue(bytes[i]) == NONE) {
                    return false;
                }
            }
            int rowBytes = (numbers[0] + 7) / 8;
            return size % 2 == 0 && size / 2 % rowBytes == 0;
        }

        /** Lays its orders behind those of the draft without counting them; NONE when a place is out of range. */
        int build(Orders draft, int[] home, int[] texts) {
            int x = home[0] + originX;
            int y = home[1] + originY;
            int made = kind == BLOCK ? layLines(draft, x, y, texts) : layOthers(draft, x, y, texts);
            System.arraycopy(bytes, 0, draft.bytes, draft.count * Orders.BYTES, size);
            boolean right = made <= LINES_MOST;
            for (int i = 0; right && i < made; i++) {
                int row = (draft.count + i) * Orders.STRIDE;
                draft.rows[row + Orders.WAY] = over ? 2 : 0;
                draft.rows[row + Orders.COUNTS] = counts ? 1 : 0;
                draft.rows[row + Orders.STEP] = step;
                draft.rows[row + Orders.WHOLE] = size;
                right = Orders.inRange(draft.rows[row + Orders.X]) && Orders.inRange(draft.rows[row + Orders.Y]);
            }
            if (kind == LINE) {
                right &= Orders.inRange(x + numbers[0]) && Orders.inRange(y + numbers[1]);
            }
            return right ? made : NONE;
        }

        private int layOthers(Orders draft, int x, int y, int[] texts) {
            int k = draft.count;
            boolean ofBars = kind == BARS || kind == FIGURES;
            int quarter = ofBars ? numbers[2] : kind == TEXT || kind == SQUARE ? numbers[3] : 0;
            draft.lay(k, kind, x, y, quarter);
            draft.number(k, numbers[0], kind == PICTURE ? 0 : numbers[1], ofBars || kind == PICTURE ? 0 : numbers[2]);
            draft.slice(k, k, 0, kind <= SQUARE ? size : kind == PICTURE ? size / 2 : 0);
            if (kind != BARS || numbers[3] == 0) {
                return 1;
            }
            draft.lay(k + 1, TEXT, x, y, quarter);
            draft.move(k + 1, 0, numbers[1] + 3);
            draft.number(k + 1, texts[0], texts[1], texts[2]);
            draft.slice(k + 1, k, 0, size);
            return 2;
        }

        private int layLines(Orders draft, int x, int y, int[] texts) {
            for (int i = 0; i < lines && i < LINES_MOST; i++) {
                int k = draft.count + i;
                int spare = numbers[0] - lineSize[i];
                int cells = numbers[2] == 0 ? 0 : numbers[2] == 1 ? spare : spare / 2;
                draft.lay(k, TEXT, x, y, texts[3]);
                draft.move(k, numbers[3] * cells, numbers[1] * i);
                draft.number(k, texts[0], texts[1], texts[2]);
                draft.slice(k, draft.count, lineFrom[i], lineSize[i]);
            }
            return lines;
        }

        /** Cuts the data of a block into lines; those beyond the most are counted, not kept. */
        void cutLines() {
            lines = 0;
            int from = 0;
            for (int i = 0; kind == BLOCK && i <= Tape.DATA_MOST && from <= size; i++) {
                int end = endOfPiece(from);
                int next = end + 1;
                if (end - from > numbers[0]) {
                    int blank = lastBlank(from, from + numbers[0]);
                    end = blank == NONE ? from + numbers[0] : blank;
                    next = blank == NONE ? end : blank + 1;
                }
                addLine(from, end - from);
                from = next;
            }
        }

        private int endOfPiece(int from) {
            for (int p = from; p < size; p++) {
                if (bytes[p] == 10) {
                    return p;
                }
            }
            return size;
        }

        private int lastBlank(int first, int last) {
            for (int p = last; p >= first; p--) {
                if (bytes[p] == ' ') {
                    return p;
                }
            }
            return NONE;
        }

        private void addLine(int from, int length) {
            if (lines < LINES_MOST) {
                lineFrom[lines] = from;
                lineSize[lines] = length;
            }
            lines++;
        }
    }

    /** Reads the tape command by command and makes labels and orders of it. */
    private static final class Setter {
        static final String LETTERS = "SLKEHCDUORXV#TWBNQFIGP;";
        static final int S = 0;
        static final int L = 1;
        static final int K = 2;
        static final int E = 3;
        static final int H = 4;
        static final int C = 5;
        static final int D = 6;
        static final int U = 7;
        static final int O = 8;
        static final int R = 9;
        static final int X = 10;
        static final int V = 11;
        static final int COUNT = 12;
        static final int T = 13;
        static final int END = 22;
        static final int LABELS_MOST = 12;
        static final int COMMANDS_END = 2000;
        /** How many numbers each letter has. */
        static final int[] HAS = {1, 2, 1, 0, 2, 1, 4, 1, 2, 0, 0, 1, 1, 4, 4, 4, 3, 4, 3, 3, 3, 1, 0};
        /** For each letter and number: what it is when left out, the least and the most. */
        static final int[] RANGES = {
            0, 0, 7, 0, 0, 0, 0, 0, 0, 0, 0, 0,
            0, 1, 512, 0, 1, 512, 0, 0, 0, 0, 0, 0,
            0, 0, 9, 0, 0, 0, 0, 0, 0, 0, 0, 0,
            0, 0, 0, 0, 0, 0, 0, 0, 0, 0, 0, 0,
            0, -4096, 4096, 0, -4096, 4096, 0, 0, 0, 0, 0, 0,
            1, 1, 12, 0, 0, 0, 0, 0, 0, 0, 0, 0,
            0, 0, 3, 1, 1, 10, 1, 1, 10, 0, 0, 3,
            0, 0, 7, 0, 0, 0, 0, 0, 0, 0, 0, 0,
            0, -4096, 4096, 0, -4096, 4096, 0, 0, 0, 0, 0, 0,
            0, 0, 0, 0, 0, 0, 0, 0, 0, 0, 0, 0,
            0, 0, 0, 0, 0, 0, 0, 0, 0, 0, 0, 0,
            0, 0, 9, 0, 0, 0, 0, 0, 0, 0, 0, 0,
            0, -99, 99, 0, 0, 0, 0, 0, 0, 0, 0, 0,
            0, 0, 3, 1, 1, 10, 1, 1, 10, 0, 0, 3,
            0, 1, 99, 0, 0, 999, 0, 0, 2, 0, 0, 999,
            2, 1, 50, 50, 1, 2048, 0, 0, 3, 0, 0, 1,
            2, 1, 50, 50, 1, 2048, 0, 0, 3, 0, 0, 0,
            2, 1, 50, 1, 0, 3, -1, -1, 7, 0, 0, 3,
            1, 1, 2048, 1, 1, 2048, 1, 1, 200, 0, 0, 0,
            1, 1, 2048, 1, 1, 2048, 1, 1, 200, 0, 0, 0,
            0, -4096, 4096, 0, -4096, 4096, 1, 1, 200, 0, 0, 0,
            8, 1, 1024, 0, 0, 0, 0, 0, 0, 0, 0, 0,
            0, 0, 0, 0, 0, 0, 0, 0, 0, 0, 0, 0};
        /** The kinds of the letters from T on. */
        static final int[] KINDS = {0, 8, 1, 2, 3, 4, 5, 6, 7};

        final Tape tape;
        final Orders all;
        final Orders draft;
        final Field field;
        int labels;
        final int[] labelRows = new int[4 * LABELS_MOST];
        int metFault;
        int metPlace = NONE;
        private boolean inLabel;
        private int commands;
        private int width;
        private int height;
        private int copies;
        private final int[] home = new int[2];
        private final int[] texts = new int[4];
        private int formEnd;
        private int made;

        Setter(Tape tape, Orders all) {
            this.tape = tape;
            this.all = all;
            // a field lays its orders before they are counted, so there is room for one more field
            draft = new Orders(Orders.MOST + Field.LINES_MOST);
            field = new Field();
        }

        /** What read() answers when such a fault, or 0, was met. */
        int finish(int fault) {
            metFault = fault;
            if (fault != 0) {
                labels = 0;
                all.count = 0;
                return NONE;
            }
            metPlace = NONE;
            tape.size = 0;
            return labels;
        }

        /** Reads the whole tape, up to the first fault; answers that, or 0. */
        int followAll() {
            labels = 0;
            all.count = 0;
            inLabel = false;
            commands = 0;
            tape.rewind();
            // each turn takes a command or leaves a form, and commands end at the two thousandth
            for (int i = 0; i < 3 * COMMANDS_END; i++) {
                tape.passBlanks();
                int b = tape.next();
                if (tape.depth == 0) {
                    metPlace = tape.at[0];
                }
                if (b == NONE && tape.depth == 0) {
                    return inLabel ? 11 : 0;
                }
                if (b == NONE) {
                    tape.depth--;
                    continue;
                }
                if (b != '^') {
                    return 1;
                }
                tape.pass();
                int fault = follow();
                if (fault != 0) {
                    return fault;
                }
            }
            return 10;
        }

        private int follow() {
            int letter = tape.next();
            int which = letter == NONE ? NONE : LETTERS.indexOf((char) letter);
            if (which < 0) {
                return 2;
            }
            tape.pass();
            if (!canStand(which)) {
                return 3;
            }
            leaveOut(which);
            if (!(which == K ? tape.takeNumberAndComma() : tape.takeNumbers(HAS[which]))) {
                return 4;
            }
            if (!inRanges(which)) {
                return 5;
            }
            if ((which == K || which == X) && !tape.takeData()) {
                return 6;
            }
            int fault = laterFault(which);
            if (fault == 0) {
                perform(which);
            }
            return fault;
        }

        private boolean canStand(int which) {
            switch (which) {
                case S:
                case L:
                    return !inLabel;
                case K:
                    return true;
                case E:
                    return inLabel && tape.depth == 0;
                case END:
                    return inLabel && field.kind != Field.NO_KIND;
                default:
                    return inLabel;
            }
        }

        private void leaveOut(int which) {
            for (int i = 0; i < 4; i++) {
                tape.numbers[i] = which == T ? texts[i] : RANGES[12 * which + 3 * i];
            }
        }

        private boolean inRanges(int which) {
            for (int i = 0; i < HAS[which]; i++) {
                int range = 12 * which + 3 * i;
                if (tape.numbers[i] < RANGES[range + 1] || tape.numbers[i] > RANGES[range + 2]) {
                    return false;
                }
            }
            return true;
        }

        /** The faults 7 to 10, before the command has changed anything. */
        private int laterFault(int which) {
            if (which == S) {
                formEnd = tape.endOfForm();
                if (formEnd == NONE) {
                    return 7;
                }
            }
            if (which == END) {
                field.cutLines();
                made = field.hasItsData() ? field.build(draft, home, texts) : NONE;
                if (made == NONE) {
                    return 8;
                }
            }
            if (which == U && (tape.formSizes[tape.numbers[0]] == 0 || tape.depth == Tape.DEEPEST)) {
                return 9;
            }
            commands++;
            return commands >= COMMANDS_END || isTooMuch(which) ? 10 : 0;
        }

        private boolean isTooMuch(int which) {
            if (which == END) {
                return draft.count + made > Orders.MOST;
            }
            return which == E
                && (labels + copies > LABELS_MOST || all.count + copies * draft.count > Orders.MOST);
        }

        private void perform(int which) {
            int first = tape.numbers[0];
            switch (which) {
                case S:
                    tape.keepForm(first, formEnd);
                    break;
                case L:
                    beginLabel();
                    break;
                case K:
                    tape.keepVariable(first);
                    break;
                case E:
                    endLabel();
                    break;
                case H:
                    home[0] = first;
                    home[1] = tape.numbers[1];
                    break;
                case C:
                    copies = first;
                    break;
                case D:
                    System.arraycopy(tape.numbers, 0, texts, 0, 4);
                    break;
                case U:
                    tape.enterForm(first);
                    break;
                default:
                    performOfField(which, first);
                    break;
            }
        }

        private void performOfField(int which, int first) {
            switch (which) {
                case O:
                    field.originX = first;
                    field.originY = tape.numbers[1];
                    break;
                case R:
                    field.over = true;
                    break;
                case X:
                    field.hold(tape.data, 0, tape.dataSize);
                    break;
                case V:
                    field.hold(tape.variables, first * Tape.DATA_MOST, tape.variableSizes[first]);
                    break;
                case COUNT:
                    field.counts = true;
                    field.step = first;
                    break;
                case END:
                    draft.count += made;
                    field.clear();
                    break;
                default:
                    field.become(KINDS[which - T], tape.numbers);
                    break;
            }
        }

        private void beginLabel() {
            inLabel = true;
            width = tape.numbers[0];
            height = tape.numbers[1];
            copies = 1;
            home[0] = 0;
            home[1] = 0;
            texts[0] = 0;
            texts[1] = 1;
            texts[2] = 1;
            texts[3] = 0;
            draft.count = 0;
            field.clear();
        }

        private void endLabel() {
            inLabel = false;
            for (int copy = 0; copy < copies; copy++) {
                labelRows[4 * labels] = width;
                labelRows[4 * labels + 1] = height;
                labelRows[4 * labels + 2] = all.count;
                labelRows[4 * labels + 3] = draft.count;
                labels++;
                for (int i = 0; i < draft.count; i++) {
                    all.addCopy(draft, i, copy);
                }
            }
        }
    }

    /** The dots, 64 of a row in each word; bits beyond the width are always 0. */
    private static final class Sheet {
        static final int ROW = 8;
        static final int MOST = 512;

        int width = 64;
        int height = 64;
        /** Whether figures turn dots over or make them dark. */
        boolean over;
        /** How many dots were struck since it was last set to 0. */
        int struck;
        private long[] words = new long[MOST * ROW];
        private long[] spare = new long[MOST * ROW];

        void renew(int w, int h) {
            width = w;
            height = h;
            Arrays.fill(words, 0);
        }

        boolean has(int x, int y) {
            return x >= 0 && x < width && y >= 0 && y < height;
        }

        boolean isDark(int x, int y) {
            return (words[y * ROW + (x >> 6)] >>> (x & 63) & 1) != 0;
        }

        /** Strikes the dots of a rectangle that lie on the sheet. */
        void box(int left, int top, int right, int bottom) {
            int x0 = Math.max(left, 0);
            int x1 = Math.min(right, width - 1);
            int y0 = Math.max(top, 0);
            int y1 = Math.min(bottom, height - 1);
            if (x0 > x1 || y0 > y1) {
                return;
            }
            struck += (x1 - x0 + 1) * (y1 - y0 + 1);
            for (int w = x0 >> 6; w <= x1 >> 6; w++) {
                long bits = -1L;
                if (w == x0 >> 6) {
                    bits &= -1L << (x0 & 63);
                }
                if (w == x1 >> 6) {
                    bits &= -1L >>> (63 - (x1 & 63));
                }
                strikeColumn(w, y0, y1, bits);
            }
        }

        private void strikeColumn(int w, int y0, int y1, long bits) {
            for (int y = y0; y <= y1; y++) {
                int at = y * ROW + w;
                words[at] = over ? words[at] ^ bits : words[at] | bits;
            }
        }

        int flip(int x, int y, long bits) {
            if (y < 0 || y >= height) {
                return 0;
            }
            int flipped = 0;
            for (int i = 0; i < 64; i++) {
                long px = (long) x + i;
                if ((bits >>> i & 1) != 0 && px >= 0 && px < width) {
                    words[y * ROW + (int) (px >> 6)] ^= 1L << (px & 63);
                    flipped++;
                }
            }
            return flipped;
        }

        long wordFrom(int x, int y) {
            if (y < 0 || y >= height) {
                return 0;
            }
            int w = x >> 6;
            int shift = x & 63;
            long low = word(w, y) >>> shift;
            return shift == 0 ? low : low | word(w + 1, y) << (64 - shift);
        }

        private long word(int w, int y) {
            return w < 0 || w >= ROW ? 0 : words[y * ROW + w];
        }

        void rotate(int quarter) {
            if (quarter == 0) {
                return;
            }
            Arrays.fill(spare, 0);
            for (int y = 0; y < height; y++) {
                for (int w = 0; w < ROW; w++) {
                    if (words[y * ROW + w] != 0) {
                        rotateWord(w, y, quarter);
                    }
                }
            }
            long[] old = words;
            words = spare;
            spare = old;
            if (quarter != 2) {
                int high = height;
                height = width;
                width = high;
            }
        }

        private void rotateWord(int w, int y, int quarter) {
            long bits = words[y * ROW + w];
            for (int i = 0; i < 64; i++) {
                if ((bits >>> i & 1) != 0) {
                    int x = 64 * w + i;
                    int toX = quarter == 1 ? height - 1 - y : quarter == 2 ? width - 1 - x : y;
                    int toY = quarter == 1 ? x : quarter == 2 ? height - 1 - y : width - 1 - x;
                    spare[toY * ROW + (toX >> 6)] |= 1L << (toX & 63);
                }
            }
        }

        int darkCount() {
            int dark = 0;
            for (int i = 0; i < height * ROW; i++) {
                dark += Long.bitCount(words[i]);
            }
            return dark;
        }

        /** The first column (step 1) or the last one (step -1) that has a dark dot; NONE when there is none. */
        int edgeColumn(int step) {
            int w = step > 0 ? 0 : ROW - 1;
            for (int i = 0; i < ROW; i++) {
                long any = 0;
                for (int y = 0; y < height; y++) {
                    any |= words[y * ROW + w];
                }
                if (any != 0) {
                    return 64 * w + edgeBit(any, step);
                }
                w += step;
            }
            return NONE;
        }

        private static int edgeBit(long bits, int step) {
            int at = step > 0 ? 0 : 63;
            for (int i = 0; i < 63 && (bits >>> at & 1) == 0; i++) {
                at += step;
            }
            return at;
        }

        /** As edgeColumn(), of the rows. */
        int edgeRow(int step) {
            int y = step > 0 ? 0 : height - 1;
            for (int i = 0; i < height; i++) {
                for (int w = 0; w < ROW; w++) {
                    if (words[y * ROW + w] != 0) {
                        return y;
                    }
                }
                y += step;
            }
            return NONE;
        }

        /** The runs from a dot on to the edge; answers how many they are. */
        int takeRuns(int x, int y, boolean down, int[] runs) {
            int count = 0;
            int length = down ? height - y : width - x;
            boolean last = !isDark(x, y);
            for (int i = 0; i < length; i++) {
                boolean dark = down ? isDark(x, y + i) : isDark(x + i, y);
                if (dark != last) {
                    runs[count] = 0;
                    count++;
                    last = dark;
                }
                runs[count - 1]++;
            }
            return count;
        }
    }

    /** Draws orders on the sheet; it also keeps the fonts. */
    private static final class Pen {
        static final int CELL = 32;

        private final Sheet sheet;
        private final Bars strips;
        private final Grid grid;
        /** Width, height and gap of each font. */
        private final int[] sizes = {8, 8, 0, 8, 8, 0, 8, 8, 0, 8, 8, 0};
        private final int[] cells = new int[4 * 256 * CELL];
        private int x;
        private int y;
        private int quarter;

        Pen(Sheet sheet, Bars strips, Grid grid) {
            this.sheet = sheet;
            this.strips = strips;
            this.grid = grid;
        }

        void newFont(int font, int w, int h, int gap) {
            sizes[3 * font] = w;
            sizes[3 * font + 1] = h;
            sizes[3 * font + 2] = gap;
            Arrays.fill(cells, font * 256 * CELL, (font + 1) * 256 * CELL, 0);
        }

        int rowsOf(int font) {
            return sizes[3 * font + 1];
        }

        void newRow(int font, int code, int r, int bits) {
            cells[(font * 256 + code) * CELL + r] = bits;
        }

        /** How many dots of an order lie on the sheet; NONE when it is not drawn. */
        int follow(Orders orders, int k) {
            x = orders.value(k, Orders.X);
            y = orders.value(k, Orders.Y);
            quarter = orders.value(k, Orders.QUARTER);
            sheet.over = orders.value(k, Orders.WAY) == 2;
            sheet.struck = 0;
            int a = orders.value(k, Orders.A);
            int b = orders.value(k, Orders.B);
            int c = orders.value(k, Orders.C);
            boolean done = true;
            switch (orders.value(k, Orders.KIND)) {
                case 0:
                    drawText(orders, k);
                    break;
                case 1:
                    done = strips.layText(orders.bytes, k * Orders.BYTES, orders.value(k, Orders.SIZE));
                    drawBars(done, a, b);
                    break;
                case 2:
                    strips.layFigures(orders.bytes, k * Orders.BYTES);
                    drawBars(true, a, b);
                    break;
                case 3:
                    done = grid.make(orders.bytes, k * Orders.BYTES, orders.value(k, Orders.SIZE), b, c);
                    drawSquare(done, a);
                    break;
                case 4:
                    drawFrame(a, b, c);
                    break;
                case 5:
                    drawEllipse(a, b, c);
                    break;
                case 6:
                    drawLine(a, b, c);
                    break;
                default:
                    drawPicture(orders, k);
                    break;
            }
            return done ? sheet.struck : NONE;
        }

        /** Strikes the steps i, so many wide, and j, so many high. */
        private void strike(int i, int j, int wide, int high) {
            switch (quarter) {
                case 0:
                    sheet.box(x + i, y + j, x + i + wide - 1, y + j + high - 1);
                    break;
                case 1:
                    sheet.box(x - j - high + 1, y + i, x - j, y + i + wide - 1);
                    break;
                case 2:
                    sheet.box(x - i - wide + 1, y - j - high + 1, x - i, y - j);
                    break;
                default:
                    sheet.box(x + j, y - i - wide + 1, x + j + high - 1, y - i);
                    break;
            }
        }

        private void drawText(Orders orders, int k) {
            int font = orders.value(k, Orders.A);
            int p = orders.value(k, Orders.B);
            int q = orders.value(k, Orders.C);
            int w = sizes[3 * font];
            int pitch = p * (w + sizes[3 * font + 2]);
            for (int n = 0; n < orders.value(k, Orders.SIZE); n++) {
                int cell = (font * 256 + orders.byteAt(k, n)) * CELL;
                for (int r = 0; r < sizes[3 * font + 1]; r++) {
                    drawCellRow(cells[cell + r], w, pitch * n, q * r, p, q);
                }
            }
        }

        /** Neighbours that are dark are struck together; the first column is the highest of the w bits. */
        private void drawCellRow(int bits, int w, int i, int j, int p, int q) {
            int dark = 0;
            for (int column = 0; column <= w; column++) {
                if (column < w && (bits >>> (w - 1 - column) & 1) != 0) {
                    dark++;
                } else if (dark > 0) {
                    strike(i + p * (column - dark), j, p * dark, q);
                    dark = 0;
                }
            }
        }

        private void drawBars(boolean laid, int m, int h) {
            int i = 0;
            for (int n = 0; laid && n < strips.widthCount; n++) {
                int wide = m * strips.widths[n];
                if (n % 2 == 0) {
                    strike(i, 0, wide, h);
                }
                i += wide;
            }
        }

        private void drawSquare(boolean made, int m) {
            for (int r = 0; made && r < grid.side; r++) {
                for (int c = 0; c < grid.side; c++) {
                    if (grid.isDark(c, r)) {
                        strike(m * c, m * r, m, m);
                    }
                }
            }
        }

        private void drawFrame(int w, int h, int t) {
            if (w <= 2 * t || h <= 2 * t) {
                sheet.box(x, y, x + w - 1, y + h - 1);
                return;
            }
            sheet.box(x, y, x + w - 1, y + t - 1);
            sheet.box(x, y + h - t, x + w - 1, y + h - 1);
            sheet.box(x, y + t, x + t - 1, y + h - 1 - t);
            sheet.box(x + w - t, y + t, x + w - 1, y + h - 1 - t);
        }

        private void drawEllipse(int w, int h, int t) {
            boolean hollow = w > 2 * t && h > 2 * t;
            for (int r = 0; r < h; r++) {
                int py = y + r;
                if (py >= 0 && py < sheet.height) {
                    long v = 2L * r - (h - 1);
                    int outer = indent(w, w, h, v);
                    // a row in which the inner one has no dot has no hole
                    int inner = hollow ? indent(w, w - 2 * t, h - 2 * t, v) : NONE;
                    if (inner == NONE && outer != NONE) {
                        sheet.box(x + outer, py, x + w - 1 - outer, py);
                    } else if (outer != NONE) {
                        sheet.box(x + outer, py, x + inner - 1, py);
                        sheet.box(x + w - inner, py, x + w - 1 - outer, py);
                    }
                }
            }
        }

        /** How many dots of a row, w wide, lie left of the ellipse with the axes a and b; NONE when all do. */
        private static int indent(int w, int a, int b, long v) {
            int low = 0;
            int high = (w + 1) / 2;
            for (int i = 0; i < 12 && low < high; i++) {
                int middle = (low + high) / 2;
                long u = 2L * middle - (w - 1);
                if (u * b * u * b + v * a * v * a <= (long) a * b * a * b) {
                    high = middle;
                } else {
                    low = middle + 1;
                }
            }
            return low == (w + 1) / 2 ? NONE : low;
        }

        private void drawLine(int dx, int dy, int t) {
            int top = Math.max(Math.min(0, dy) - t, -y);
            int bottom = Math.min(Math.max(0, dy) + t, sheet.height - 1 - y);
            for (int row = top; row <= bottom; row++) {
                // the dots of a row are neighbours, and one of two at the line itself is among them
                int level = Math.max(Math.min(0, dy), Math.min(Math.max(0, dy), row));
                int at = dy == 0 ? 0 : Math.floorDiv(dx * level, dy);
                if (!isNear(at, row, dx, dy, t)) {
                    at++;
                }
                if (isNear(at, row, dx, dy, t)) {
                    int left = lastNear(at, Math.min(0, dx) - t - 1, row, dx, dy, t);
                    int right = lastNear(at, Math.max(0, dx) + t + 1, row, dx, dy, t);
                    sheet.box(x + left, y + row, x + right, y + row);
                }
            }
        }

        /** The last dot that is near, from one that is towards one that is not. */
        private static int lastNear(int near, int far, int row, int dx, int dy, int t) {
            int in = near;
            int out = far;
            for (int i = 0; i < 16 && Math.abs(out - in) > 1; i++) {
                int middle = (in + out) / 2;
                if (isNear(middle, row, dx, dy, t)) {
                    in = middle;
                } else {
                    out = middle;
                }
            }
            return in;
        }

        /** Whether (px, py) is no farther than half of t from the line from (0, 0) to (dx, dy). */
        private static boolean isNear(long px, long py, long dx, long dy, long t) {
            long along = px * dx + py * dy;
            long whole = dx * dx + dy * dy;
            if (along <= 0) {
                return 4 * (px * px + py * py) <= t * t;
            }
            if (along >= whole) {
                return 4 * ((px - dx) * (px - dx) + (py - dy) * (py - dy)) <= t * t;
            }
            long across = px * dy - py * dx;
            return 4 * across * across <= t * t * whole;
        }

        private void drawPicture(Orders orders, int k) {
            int w = orders.value(k, Orders.A);
            int rowBytes = (w + 7) / 8;
            int rows = orders.value(k, Orders.SIZE) / rowBytes;
            for (int r = 0; r < rows; r++) {
                for (int c = 0; c < w; c++) {
                    int bits = orders.byteAt(k, r * rowBytes + c / 8);
                    if ((bits >> (7 - c % 8) & 1) != 0) {
                        sheet.box(x + c, y + r, x + c, y + r);
                    }
                }
            }
        }
    }

    /** Codes of bars: texts and figures become widths, runs of dots become signs. */
    private static final class Bars {
        static final int TEXT_MOST = 64;
        static final int MARK = 128;
        static final int FAR = 1000;
        static final int STOP = 2331112;
        static final int[] SYMBOLS = {
            212222, 222122, 222221, 121223, 121322, 131222, 122213, 122312, 132212, 221213, 221312, 231212,
            112232, 122132, 122231, 113222, 123122, 123221, 223211, 221132, 221231, 213212, 223112, 312131,
            311222, 321122, 321221, 312212, 322112, 322211, 212123, 212321, 232121, 111323, 131123, 131321,
            112313, 132113, 132311, 211313, 231113, 231311, 112133, 112331, 132131, 113123, 113321, 133121,
            313121, 211331, 231131, 213113, 213311, 213131, 311123, 311321, 331121, 312113, 312311, 332111,
            314111, 221411, 431111, 111224, 111422, 121124, 121421, 141122, 141221, 112214, 112412, 122114,
            122411, 142112, 142211, 241211, 221114, 413111, 241112, 134111, 111242, 121142, 121241, 114212,
            124112, 124211, 411212, 421112, 421211, 212141, 214121, 412121, 111143, 111341, 131141, 114113,
            114311, 411113, 411311, 113141, 114131, 311141, 411131, 211412, 211214, 211232};
        static final int[] FIGURES = {3211, 2221, 2122, 1411, 1132, 1231, 1114, 1312, 1213, 3112};
        static final int[] TURNED = {1123, 1222, 2212, 1141, 2311, 1321, 4111, 2131, 3121, 2113};
        /** Which of the second to the seventh figure are turned, the second as the highest bit. */
        static final int[] FIRSTS = {0, 11, 13, 14, 19, 25, 28, 21, 22, 26};

        final int[] runs = new int[Sheet.MOST];
        final int[] widths = new int[900];
        int widthCount;
        boolean ofFigures;
        boolean fromBack;
        private final int[] signs = new int[TEXT_MOST + 1];
        private int signCount;
        /** For each sign and set: the fewest symbols from there to the end. */
        private final int[] fewest = new int[3 * (TEXT_MOST + 2)];
        private final int[] symbols = new int[140];
        private int symbolCount;
        private final int[] figures = new int[13];
        private int length;
        private int written;

        /** The widths of the row of a text; false when it is none. */
        boolean layText(byte[] bytes, int from, int size) {
            if (size > TEXT_MOST) {
                return false;
            }
            for (int i = 0; i < size; i++) {
                signs[i] = bytes[from + i] & 255;
                if (signs[i] > MARK) {
                    return false;
                }
            }
            signCount = size;
            countFewest();
            chooseSymbols();
            layWidths();
            return true;
        }

        private void countFewest() {
            Arrays.fill(fewest, 3 * signCount, 3 * signCount + 3, 0);
            for (int i = signCount - 1; i >= 0; i--) {
                int a = fewestBySign(i, 0);
                int b = fewestBySign(i, 1);
                int c = fewestBySign(i, 2);
                // each set can be left for each other one, so leaving twice is never better
                fewest[3 * i] = Math.min(a, 1 + Math.min(b, c));
                fewest[3 * i + 1] = Math.min(b, 1 + Math.min(a, c));
                fewest[3 * i + 2] = Math.min(c, 1 + Math.min(a, b));
            }
        }

        /** The fewest symbols from a sign on, when the set is not left before it is told. */
        private int fewestBySign(int i, int set) {
            if (signs[i] == MARK) {
                return 1 + fewest[3 * (i + 1) + set];
            }
            return Math.min(straight(i, set), shifted(i, set));
        }

        private int straight(int i, int set) {
            return symbolFor(i, set) == NONE ? FAR : 1 + fewest[3 * (i + signsEach(set)) + set];
        }

        private int shifted(int i, int set) {
            return set == 2 || symbolFor(i, 1 - set) == NONE ? FAR : 2 + fewest[3 * (i + 1) + set];
        }

        private static int signsEach(int set) {
            return set == 2 ? 2 : 1;
        }

        /** The symbol that tells the sign at i (in C also the next one) in a set; NONE for the mark. */
        private int symbolFor(int i, int set) {
            int sign = signs[i];
            if (set == 2) {
                int tens = sign - '0';
                int ones = i + 1 < signCount ? signs[i + 1] - '0' : NONE;
                return tens >= 0 && tens <= 9 && ones >= 0 && ones <= 9 ? 10 * tens + ones : NONE;
            }
            if (sign < 32) {
                return set == 0 ? sign + 64 : NONE;
            }
            return sign < (set == 0 ? 96 : 128) ? sign - 32 : NONE;
        }

        private void chooseSymbols() {
            int set = 0;
            for (int other = 1; other < 3; other++) {
                if (fewest[other] < fewest[set]) {
                    set = other;
                }
            }
            symbols[0] = 103 + set;
            symbolCount = 1;
            int i = 0;
            // a sign takes two symbols at the most
            for (int turn = 0; turn < 2 * TEXT_MOST && i < signCount; turn++) {
                int symbol = leastSymbol(i, set);
                addSymbol(symbol);
                if (symbol == symbolFor(i, set)) {
                    i += signsEach(set);
                } else if (symbol == 98) {
                    addSymbol(symbolFor(i, 1 - set));
                    i++;
                } else if (symbol == 102) {
                    i++;
                } else {
                    set = 101 - symbol;
                }
            }
            int check = checkSymbol(symbolCount);
            addSymbol(check);
        }

        /** Of all symbols that can come next in a shortest row the least. */
        private int leastSymbol(int i, int set) {
            int best = fewest[3 * i + set];
            if (straight(i, set) == best) {
                return symbolFor(i, set);
            }
            if (shifted(i, set) == best) {
                return 98;
            }
            for (int symbol = 99; symbol <= 101; symbol++) {
                int other = 101 - symbol;
                if (other != set && 1 + fewest[3 * i + other] == best) {
                    return symbol;
                }
            }
            return 102;
        }

        private void addSymbol(int symbol) {
            if (symbolCount < symbols.length) {
                symbols[symbolCount] = symbol;
                symbolCount++;
            }
        }

        private int checkSymbol(int count) {
            int sum = symbols[0];
            for (int i = 1; i < count; i++) {
                sum += i * symbols[i];
            }
            return sum % 103;
        }

        private void layWidths() {
            widthCount = 0;
            for (int i = 0; i < symbolCount; i++) {
                addWidths(SYMBOLS[symbols[i]], 100000);
            }
            addWidths(STOP, 1000000);
        }

        /** The digits of a number as widths, from the one that counts so much on. */
        private void addWidths(int pattern, int first) {
            for (int unit = first; unit > 0; unit /= 10) {
                widths[widthCount] = pattern / unit % 10;
                widthCount++;
            }
        }

        /** The widths of twelve figures and their check figure. */
        void layFigures(byte[] bytes, int from) {
            for (int i = 0; i < 12; i++) {
                // the data of such an order are digits; the rest keeps the figure one in any case
                figures[i] = Math.floorMod(bytes[from + i] - '0', 10);
            }
            figures[12] = checkFigure();
            widthCount = 0;
            addWidths(111, 100);
            for (int i = 1; i < 13; i++) {
                if (i == 7) {
                    addWidths(11111, 10000);
                }
                boolean turned = i < 7 && (FIRSTS[figures[0]] >> (6 - i) & 1) != 0;
                addWidths(turned ? TURNED[figures[i]] : FIGURES[figures[i]], 1000);
            }
            addWidths(111, 100);
        }

        private int checkFigure() {
            int sum = 0;
            for (int i = 0; i < 12; i++) {
                sum += i % 2 == 0 ? figures[i] : 3 * figures[i];
            }
            return (10 - sum % 10) % 10;
        }

        /** The longest strip of so many runs that tells signs: how many; NONE when there is none. */
        int understand(int runCount, byte[] out) {
            int longest = runCount % 2 == 0 ? runCount - 1 : runCount;
            for (length = longest; length >= 19; length -= 2) {
                for (int way = 0; way < 2; way++) {
                    fromBack = way == 1;
                    ofFigures = length == 59;
                    if (ofFigures && readFigures(out)) {
                        return 13;
                    }
                    if (length % 6 == 1 && readSymbols(out)) {
                        return written;
                    }
                }
            }
            return NONE;
        }

        private int widthAt(int i) {
            return runs[fromBack ? length - 1 - i : i];
        }

        private int sumOf(int from, int count) {
            int sum = 0;
            for (int i = from; i < from + count; i++) {
                sum += widthAt(i);
            }
            return sum;
        }

        /** What so many widths count as, modules together, as the digits of a number; NONE for others. */
        private int patternAt(int from, int count, int modules) {
            int sum = sumOf(from, count);
            int pattern = 0;
            for (int i = from; i < from + count; i++) {
                int counted = nearest(widthAt(i), modules, sum);
                if (counted < 1 || counted > 9) {
                    return NONE;
                }
                pattern = 10 * pattern + counted;
            }
            return pattern;
        }

        private static int nearest(int width, int modules, int sum) {
            return sum <= 0 ? 0 : (2 * width * modules + sum) / (2 * sum);
        }

        private static int indexOf(int[] patterns, int pattern) {
            for (int i = 0; i < patterns.length; i++) {
                if (patterns[i] == pattern) {
                    return i;
                }
            }
            return NONE;
        }

        private boolean readFigures(byte[] out) {
            if (!hasGuards()) {
                return false;
            }
            int turned = 0;
            for (int i = 1; i < 13; i++) {
                int pattern = patternAt(i < 7 ? 4 * i - 1 : 4 * i + 4, 4, 7);
                figures[i] = indexOf(FIGURES, pattern);
                if (figures[i] == NONE && i < 7) {
                    figures[i] = indexOf(TURNED, pattern);
                    turned |= 1 << (6 - i);
                }
                if (figures[i] == NONE) {
                    return false;
                }
            }
            figures[0] = indexOf(FIRSTS, turned);
            if (figures[0] == NONE || figures[12] != checkFigure()) {
                return false;
            }
            for (int i = 0; i < 13; i++) {
                out[i] = (byte) ('0' + figures[i]);
            }
            return true;
        }

        private boolean hasGuards() {
            int sum = sumOf(0, length);
            for (int i = 0; i < length; i++) {
                boolean guard = i < 3 || (i > 26 && i < 32) || i > 55;
                if (guard && nearest(widthAt(i), 95, sum) != 1) {
                    return false;
                }
            }
            return true;
        }

        private boolean readSymbols(byte[] out) {
            // the end is looked at first: it spares most strips the rest
            if (patternAt(length - 7, 7, 13) != STOP) {
                return false;
            }
            symbolCount = 0;
            for (int from = 0; from < length - 7; from += 6) {
                int symbol = indexOf(SYMBOLS, patternAt(from, 6, 11));
                if (symbol == NONE || (from == 0 && symbol < 103)) {
                    return false;
                }
                addSymbol(symbol);
            }
            int last = symbolCount - 1;
            return symbols[last] == checkSymbol(last) && tell(last, out);
        }

        /** Writes what the symbols before the check symbol tell; false when they are no row. */
        private boolean tell(int end, byte[] out) {
            int set = symbols[0] - 103;
            written = 0;
            for (int i = 1; i < end; i++) {
                int symbol = symbols[i];
                boolean leaves = symbol <= 101 && symbol >= (set == 2 ? 100 : 99);
                if (symbol == 102) {
                    write(MARK, out);
                } else if (leaves) {
                    if (101 - symbol == set) {
                        return false;
                    }
                    set = 101 - symbol;
                } else if (set == 2 && symbol < 100) {
                    write('0' + symbol / 10, out);
                    write('0' + symbol % 10, out);
                } else if (symbol == 98 && i + 1 < end && symbols[i + 1] < 96) {
                    i++;
                    write(signOf(symbols[i], 1 - set), out);
                } else if (symbol < 96) {
                    write(signOf(symbol, set), out);
                } else {
                    return false;
                }
            }
            return true;
        }

        private static int signOf(int symbol, int set) {
            return set == 0 && symbol > 63 ? symbol - 64 : symbol + 32;
        }

        private void write(int sign, byte[] out) {
            out[written] = (byte) sign;
            written++;
        }
    }

    /** The modules of a square symbol. */
    private static final class Grid {
        static final int MOST = 177;
        /** More than any penalty. */
        static final int PENALTY_END = 1 << 30;

        final Segments segments = new Segments();
        int side;
        int level;
        int mask;
        int mended;
        private final Blocks blocks = new Blocks();
        private int version;
        private final byte[] modules = new byte[MOST * MOST];
        private final byte[] fixed = new byte[MOST * MOST];

        boolean isDark(int x, int y) {
            return modules[y * MOST + x] != 0;
        }

        void set(int x, int y, boolean dark) {
            modules[y * MOST + x] = (byte) (dark ? 1 : 0);
        }

        private void fix(int x, int y, boolean dark) {
            modules[y * MOST + x] = (byte) (dark ? 1 : 0);
            fixed[y * MOST + x] = 1;
        }

        /** Makes the symbol of some data; false when no version holds it. */
        boolean make(byte[] data, int from, int size, int atLevel, int withMask) {
            int fitting = segments.pack(data, from, size, atLevel);
            if (fitting == 0) {
                return false;
            }
            blocks.spread(fitting, atLevel, segments.bytes);
            begin(fitting);
            carry(true);
            mask = withMask < 0 ? bestMask(atLevel) : withMask;
            turnMask(mask);
            fixForm(atLevel, mask);
            return true;
        }

        private int bestMask(int atLevel) {
            int best = 0;
            int least = PENALTY_END;
            for (int k = 0; k < 8; k++) {
                turnMask(k);
                fixForm(atLevel, k);
                int score = penalty();
                if (score < least) {
                    least = score;
                    best = k;
                }
                turnMask(k);
            }
            return best;
        }

        /** Fixes all that a version has fixed, with the form of level 0 and mask 0. */
        void begin(int newVersion) {
            version = newVersion;
            side = 17 + 4 * version;
            for (int y = 0; y < side; y++) {
                Arrays.fill(fixed, y * MOST, y * MOST + side, (byte) 0);
                Arrays.fill(modules, y * MOST, y * MOST + side, (byte) 0);
            }
            for (int i = 0; i < side; i++) {
                fix(i, 6, i % 2 == 0);
                fix(6, i, i % 2 == 0);
            }
            fixSquares(3, 3, 4, 2);
            fixSquares(side - 4, 3, 4, 2);
            fixSquares(3, side - 4, 4, 2);
            if (version > 1) {
                fixSmallSquares();
            }
            fixForm(0, 0);
            fix(8, side - 8, true);
            if (version > 6) {
                fixVersion();
            }
        }

        /** Squares within squares up to a distance, dark but for two distances. */
        private void fixSquares(int x, int y, int most, int light) {
            for (int dy = -most; dy <= most; dy++) {
                for (int dx = -most; dx <= most; dx++) {
                    int d = Math.max(Math.abs(dx), Math.abs(dy));
                    boolean within = x + dx >= 0 && x + dx < side && y + dy >= 0 && y + dy < side;
                    if (within) {
                        fix(x + dx, y + dy, d != light && d != 4);
                    }
                }
            }
        }

        private void fixSmallSquares() {
            int n = version / 7 + 2;
            int last = n - 1;
            for (int i = 0; i < n; i++) {
                for (int j = 0; j < n; j++) {
                    boolean corner = (i == 0 && (j == 0 || j == last)) || (i == last && j == 0);
                    if (!corner) {
                        fixSquares(smallPlace(i, n), smallPlace(j, n), 2, 1);
                    }
                }
            }
        }

        private int smallPlace(int i, int n) {
            int step = version == 32 ? 26 : 2 * ((4 * version + 2 * n + 1) / (2 * n - 2));
            return i == 0 ? 6 : side - 7 - (n - 1 - i) * step;
        }

        private static int formWord(int number) {
            return (number << 10 | rest(number << 10, 1335, 10, 15)) ^ 21522;
        }

        /** The rest of a polynomial of so many bits by one of a degree. */
        private static int rest(int word, int divisor, int degree, int bits) {
            int left = word;
            for (int i = bits - 1; i >= degree; i--) {
                if ((left >> i & 1) != 0) {
                    left ^= divisor << (i - degree);
                }
            }
            return left;
        }

        private void fixForm(int atLevel, int withMask) {
            // levels 0 .. 3 are written as 1, 0, 3, 2
            int word = formWord(8 * (atLevel ^ 1) + withMask);
            for (int i = 0; i < 15; i++) {
                for (int copy = 0; copy < 2; copy++) {
                    fix(formX(i, copy), formY(i, copy), (word >> i & 1) != 0);
                }
            }
        }

        private int formX(int i, int copy) {
            if (copy == 1) {
                return i < 8 ? side - 1 - i : 8;
            }
            return i < 8 ? 8 : i == 8 ? 7 : 14 - i;
        }

        private int formY(int i, int copy) {
            if (copy == 1) {
                return i < 8 ? 8 : side - 15 + i;
            }
            return i < 6 ? i : i == 6 ? 7 : 8;
        }

        private void fixVersion() {
            int word = version << 12 | rest(version << 12, 7973, 12, 18);
            for (int i = 0; i < 18; i++) {
                boolean dark = (word >> i & 1) != 0;
                fix(side - 11 + i % 3, i / 3, dark);
                fix(i / 3, side - 11 + i % 3, dark);
            }
        }

        /** Carries the bits of the codewords into the modules that are not fixed, or back. */
        private void carry(boolean in) {
            int bit = 0;
            for (int pair = 0; pair < (side - 1) / 2; pair++) {
                int right = side - 1 - 2 * pair;
                if (right <= 6) {
                    right--;
                }
                for (int i = 0; i < side; i++) {
                    int y = pair % 2 == 0 ? side - 1 - i : i;
                    bit = carryBit(in, bit, right, y);
                    bit = carryBit(in, bit, right - 1, y);
                }
            }
        }

        private int carryBit(boolean in, int bit, int x, int y) {
            if (fixed[y * MOST + x] != 0) {
                return bit;
            }
            if (in) {
                set(x, y, blocks.bitAt(bit));
            } else {
                blocks.putBit(bit, isDark(x, y));
            }
            return bit + 1;
        }

        private void turnMask(int k) {
            for (int y = 0; y < side; y++) {
                for (int x = 0; x < side; x++) {
                    int at = y * MOST + x;
                    if (fixed[at] == 0 && isTurned(k, x, y)) {
                        modules[at] ^= 1;
                    }
                }
            }
        }

        private static boolean isTurned(int k, int x, int y) {
            switch (k) {
                case 0:
                    return (x + y) % 2 == 0;
                case 1:
                    return y % 2 == 0;
                case 2:
                    return x % 3 == 0;
                case 3:
                    return (x + y) % 3 == 0;
                case 4:
                    return (x / 3 + y / 2) % 2 == 0;
                case 5:
                    return x * y % 2 + x * y % 3 == 0;
                case 6:
                    return (x * y % 2 + x * y % 3) % 2 == 0;
                default:
                    return ((x + y) % 2 + x * y % 3) % 2 == 0;
            }
        }

        private int penalty() {
            int score = 0;
            int dark = 0;
            for (int i = 0; i < side; i++) {
                score += linePenalty(i * MOST, 1) + linePenalty(i, MOST);
                for (int j = 0; j < side; j++) {
                    dark += modules[i * MOST + j];
                    if (i + 1 < side && j + 1 < side && isSquareAlike(i * MOST + j)) {
                        score += 3;
                    }
                }
            }
            int total = side * side;
            return score + 10 * (Math.abs(20 * dark - 10 * total) / total);
        }

        private boolean isSquareAlike(int at) {
            int four = modules[at] + modules[at + 1] + modules[at + MOST] + modules[at + MOST + 1];
            return four == 0 || four == 4;
        }

        /** The penalty of a row or column: its runs, and what looks like a corner of a symbol. */
        private int linePenalty(int start, int step) {
            int score = 0;
            int alike = 0;
            int last = NONE;
            int eleven = 0;
            for (int i = 0; i < side; i++) {
                int module = modules[start + i * step];
                alike = module == last ? alike + 1 : 1;
                last = module;
                if (alike >= 5) {
                    score += alike == 5 ? 3 : 1;
                }
                eleven = (eleven << 1 | module) & 0x7FF;
                if (i >= 10 && (eleven == 0x5D0 || eleven == 0x05D)) {
                    score += 40;
                }
            }
            return score;
        }

        /** Reads the modules: the fault of the symbol, 0 when it has none. */
        int understand(byte[] out) {
            int number = formNumber();
            if (number == NONE) {
                return 1;
            }
            level = number >> 3 ^ 1;
            mask = number & 7;
            turnMask(mask);
            carry(false);
            mended = blocks.mend(version, level, segments.bytes);
            return mended == NONE ? 2 : segments.unpack(version, level, out);
        }

        private int formNumber() {
            for (int copy = 0; copy < 2; copy++) {
                int word = 0;
                for (int i = 0; i < 15; i++) {
                    word |= isDark(formX(i, copy), formY(i, copy)) ? 1 << i : 0;
                }
                for (int number = 0; number < 32; number++) {
                    if (Integer.bitCount(word ^ formWord(number)) <= 3) {
                        return number;
                    }
                }
            }
            return NONE;
        }
    }

    /** The codewords of a symbol, its blocks and their check bytes. */
    private static final class Blocks {
        static final int CODEWORDS_MOST = 3706;
        static final int CHECKS_MOST = 30;
        /** Check bytes of a block, by level and version. */
        static final int[] CHECKS = {
            7, 10, 15, 20, 26, 18, 20, 24, 30, 18, 20, 24, 26, 30, 22, 24, 28, 30, 28, 28,
            28, 28, 30, 30, 26, 28, 30, 30, 30, 30, 30, 30, 30, 30, 30, 30, 30, 30, 30, 30,
            10, 16, 26, 18, 24, 16, 18, 22, 22, 26, 30, 22, 22, 24, 24, 28, 28, 26, 26, 26,
            26, 28, 28, 28, 28, 28, 28, 28, 28, 28, 28, 28, 28, 28, 28, 28, 28, 28, 28, 28,
            13, 22, 18, 26, 18, 24, 18, 22, 20, 24, 28, 26, 24, 20, 30, 24, 28, 28, 26, 30,
            28, 30, 30, 30, 30, 28, 30, 30, 30, 30, 30, 30, 30, 30, 30, 30, 30, 30, 30, 30,
            17, 28, 22, 16, 22, 28, 26, 26, 24, 28, 24, 28, 22, 24, 24, 30, 28, 28, 26, 28,
            30, 24, 30, 30, 30, 30, 30, 30, 30, 30, 30, 30, 30, 30, 30, 30, 30, 30, 30, 30};
        /** How many blocks, by level and version. */
        static final int[] COUNTS = {
            1, 1, 1, 1, 1, 2, 2, 2, 2, 4, 4, 4, 4, 4, 6, 6, 6, 6, 7, 8,
            8, 9, 9, 10, 12, 12, 12, 13, 14, 15, 16, 17, 18, 19, 19, 20, 21, 22, 24, 25,
            1, 1, 1, 2, 2, 4, 4, 4, 5, 5, 5, 8, 9, 9, 10, 10, 11, 13, 14, 16,
            17, 17, 18, 20, 21, 23, 25, 26, 28, 29, 31, 33, 35, 37, 38, 40, 43, 45, 47, 49,
            1, 1, 2, 2, 4, 4, 6, 6, 8, 8, 8, 10, 12, 16, 12, 17, 16, 18, 21, 20,
            23, 23, 25, 27, 29, 34, 34, 35, 38, 40, 43, 45, 48, 51, 53, 56, 59, 62, 65, 68,
            1, 1, 2, 4, 4, 4, 5, 6, 8, 8, 11, 11, 16, 16, 18, 16, 19, 21, 25, 25,
            25, 34, 30, 32, 35, 37, 40, 42, 45, 48, 51, 54, 57, 60, 63, 66, 70, 74, 77, 81};

        private final byte[] codewords = new byte[CODEWORDS_MOST];
        private final int[] powers = new int[510];
        private final int[] logs = new int[256];
        private final int[] generator = new int[CHECKS_MOST + 1];
        /** One block with its check bytes. */
        private final int[] word = new int[255];
        private final int[] syndromes = new int[CHECKS_MOST];
        private final int[] locator = new int[CHECKS_MOST + 1];
        private final int[] former = new int[CHECKS_MOST + 1];
        private final int[] saved = new int[CHECKS_MOST + 1];
        private final int[] evaluator = new int[CHECKS_MOST];
        private int held;
        private int count;
        private int checks;
        private int total;

        Blocks() {
            int value = 1;
            for (int i = 0; i < 510; i++) {
                powers[i] = value;
                if (i < 255) {
                    logs[value] = i;
                }
                value <<= 1;
                if (value > 255) {
                    value ^= 0x11D;
                }
            }
        }

        static int codewordsOf(int version) {
            int bits = (16 * version + 128) * version + 64;
            if (version > 1) {
                int n = version / 7 + 2;
                bits -= (25 * n - 10) * n - 55;
            }
            if (version > 6) {
                bits -= 36;
            }
            return bits / 8;
        }

        static int holds(int version, int level) {
            int at = 40 * level + version - 1;
            return codewordsOf(version) - COUNTS[at] * CHECKS[at];
        }

        private void begin(int version, int level) {
            int at = 40 * level + version - 1;
            count = COUNTS[at];
            checks = CHECKS[at];
            held = holds(version, level);
            total = codewordsOf(version);
        }

        boolean bitAt(int bit) {
            return bit < 8 * total && (codewords[bit / 8] >> (7 - bit % 8) & 1) != 0;
        }

        void putBit(int bit, boolean dark) {
            int at = bit / 8;
            if (at >= CODEWORDS_MOST) {
                return;
            }
            int unit = 1 << (7 - bit % 8);
            codewords[at] = (byte) (dark ? codewords[at] | unit : codewords[at] & ~unit);
        }

        private int sizeOf(int block) {
            return held / count + (block >= count - held % count ? 1 : 0);
        }

        /** Where byte i of a block, its check bytes behind the others, is among the codewords. */
        private int placeOf(int block, int i) {
            int size = sizeOf(block);
            int whole = held / count;
            if (i >= size) {
                return held + (i - size) * count + block;
            }
            return i < whole ? i * count + block : whole * count + block - (count - held % count);
        }

        void spread(int version, int level, byte[] bytes) {
            begin(version, level);
            makeGenerator();
            int from = 0;
            for (int block = 0; block < count; block++) {
                int size = sizeOf(block);
                for (int i = 0; i < size; i++) {
                    word[i] = bytes[from + i] & 255;
                    codewords[placeOf(block, i)] = bytes[from + i];
                }
                divide(size);
                for (int i = size; i < size + checks; i++) {
                    codewords[placeOf(block, i)] = (byte) word[i];
                }
                from += size;
            }
        }

        private int times(int a, int b) {
            return a == 0 || b == 0 ? 0 : powers[logs[a] + logs[b]];
        }

        /** b must not be 0. */
        private int over(int a, int b) {
            return a == 0 ? 0 : powers[logs[a] + 255 - logs[b]];
        }

        /** The product of all x - 2^i, the highest power first. */
        private void makeGenerator() {
            Arrays.fill(generator, 0);
            generator[0] = 1;
            for (int i = 0; i < checks; i++) {
                for (int j = i + 1; j > 0; j--) {
                    generator[j] ^= times(generator[j - 1], powers[i]);
                }
            }
        }

        /** Puts the check bytes behind the bytes of the word. */
        private void divide(int size) {
            Arrays.fill(word, size, size + checks, 0);
            for (int i = 0; i < size; i++) {
                // what was divided already is not needed, so the first check byte is taken as the top
                int top = word[i] ^ word[size];
                for (int j = 0; j < checks; j++) {
                    int next = j + 1 < checks ? word[size + j + 1] : 0;
                    word[size + j] = next ^ times(top, generator[j + 1]);
                }
            }
        }

        /** Puts all blocks right and gives their bytes; how many codewords were wrong, NONE if too many. */
        int mend(int version, int level, byte[] bytes) {
            begin(version, level);
            int most = (checks - kept(version, level)) / 2;
            int mended = 0;
            int from = 0;
            for (int block = 0; block < count; block++) {
                int size = sizeOf(block);
                for (int i = 0; i < size + checks; i++) {
                    word[i] = codewords[placeOf(block, i)] & 255;
                }
                int wrong = mendWord(size + checks, most);
                if (wrong == NONE) {
                    return NONE;
                }
                mended += wrong;
                for (int i = 0; i < size; i++) {
                    bytes[from + i] = (byte) word[i];
                }
                from += size;
            }
            return mended;
        }

        /** Check bytes that small symbols keep for telling that a block is wrong. */
        private static int kept(int version, int level) {
            if (version == 1) {
                return level == 0 ? 3 : level == 1 ? 2 : 1;
            }
            return level != 0 || version > 3 ? 0 : version == 2 ? 2 : 1;
        }

        private int mendWord(int length, int most) {
            if (isCodeword(length)) {
                return 0;
            }
            int wrong = findLocator();
            if (wrong > most) {
                return NONE;
            }
            makeEvaluator();
            int roots = 0;
            for (int i = 0; i < length; i++) {
                int power = length - 1 - i;
                int inverse = powers[255 - power];
                if (valueAt(locator, inverse) == 0) {
                    roots++;
                    int slope = slopeAt(inverse);
                    if (slope == 0) {
                        return NONE;
                    }
                    word[i] ^= times(powers[power], over(valueAt(evaluator, inverse), slope));
                }
            }
            return roots == wrong && isCodeword(length) ? wrong : NONE;
        }

        private boolean isCodeword(int length) {
            boolean right = true;
            for (int k = 0; k < checks; k++) {
                int value = 0;
                for (int i = 0; i < length; i++) {
                    value = times(value, powers[k]) ^ word[i];
                }
                syndromes[k] = value;
                right &= value == 0;
            }
            return right;
        }

        /** Berlekamp and Massey: the least row of coefficients that makes the syndromes; its length. */
        private int findLocator() {
            Arrays.fill(locator, 0);
            Arrays.fill(former, 0);
            locator[0] = 1;
            former[0] = 1;
            int found = 0;
            int lag = 1;
            int formerGap = 1;
            for (int k = 0; k < checks; k++) {
                int gap = syndromes[k];
                for (int i = 1; i <= found && i <= k; i++) {
                    gap ^= times(locator[i], syndromes[k - i]);
                }
                if (gap != 0) {
                    System.arraycopy(locator, 0, saved, 0, CHECKS_MOST + 1);
                    int factor = over(gap, formerGap);
                    for (int i = lag; i <= CHECKS_MOST; i++) {
                        locator[i] ^= times(factor, former[i - lag]);
                    }
                    if (2 * found <= k) {
                        found = k + 1 - found;
                        System.arraycopy(saved, 0, former, 0, CHECKS_MOST + 1);
                        formerGap = gap;
                        lag = 0;
                    }
                }
                lag++;
            }
            return found;
        }

        private void makeEvaluator() {
            Arrays.fill(evaluator, 0);
            for (int k = 0; k < checks; k++) {
                for (int i = 0; i <= k; i++) {
                    evaluator[k] ^= times(locator[i], syndromes[k - i]);
                }
            }
        }

        private int valueAt(int[] coefficients, int x) {
            int value = 0;
            for (int i = coefficients.length - 1; i >= 0; i--) {
                value = times(value, x) ^ coefficients[i];
            }
            return value;
        }

        /** The derivative of the locator: only its odd powers are left. */
        private int slopeAt(int x) {
            int value = 0;
            int square = times(x, x);
            for (int i = CHECKS_MOST - 1; i > 0; i -= 2) {
                value = times(value, square) ^ locator[i];
            }
            return value;
        }
    }

    /** The data of a square symbol as segments of bits. */
    private static final class Segments {
        static final int BYTES_MOST = 2956;
        static final int STATES = 7;
        static final int START = 6;
        static final String SIGNS = "0123456789ABCDEFGHIJKLMNOPQRSTUVWXYZ $%*+-./:";
        /** The bits that tell how many bytes a segment has, by group of versions and mode. */
        static final int[] COUNT_BITS = {10, 9, 8, 12, 11, 16, 14, 13, 16};
        /** The mode of a state: digits of a number of three, signs of a pair, bytes, nothing yet. */
        static final int[] MODES = {0, 0, 0, 1, 1, 2, -1};
        /** For each mode and state: the state behind one more byte of that mode. */
        static final int[] NEXT = {1, 2, 0, 1, 1, 1, 1, 4, 4, 4, 4, 3, 4, 4, 5, 5, 5, 5, 5, 5, 5};
        /** For each state: the bits of the byte that led to it. */
        static final int[] BITS = {3, 4, 3, 5, 6, 8, 0};

        final byte[] bytes = new byte[BYTES_MOST];
        /** How many segments and bytes were read. */
        int count;
        int size;
        private final int[] fewest = new int[STATES * (Orders.BYTES + 1)];
        private final byte[] modes = new byte[Orders.BYTES];
        private int bit;
        private int bits;

        /** Writes data in the least version that it fits; 0 when there is none. */
        int pack(byte[] data, int from, int length, int level) {
            int needed = 0;
            for (int version = 1; version <= 40; version++) {
                if (version == 1 || groupOf(version) != groupOf(version - 1)) {
                    needed = plan(data, from, length, groupOf(version));
                }
                // data of an order is so short that each count can be told
                if (needed <= 8 * Blocks.holds(version, level)) {
                    write(data, from, length, version, Blocks.holds(version, level));
                    return version;
                }
            }
            return 0;
        }

        private static int groupOf(int version) {
            return version < 10 ? 0 : version < 27 ? 1 : 2;
        }

        private static boolean isOf(int mode, int b) {
            return mode == 2 || (mode == 0 ? b >= '0' && b <= '9' : SIGNS.indexOf((char) b) >= 0);
        }

        /** Chooses the mode of each byte; answers how many bits that takes. */
        private int plan(byte[] data, int from, int length, int group) {
            Arrays.fill(fewest, STATES * length, STATES * length + STATES, 0);
            for (int i = length - 1; i >= 0; i--) {
                for (int state = 0; state < STATES; state++) {
                    int mode = leastMode(i, state, data[from + i] & 255, group);
                    fewest[STATES * i + state] = bitsBy(i, state, mode, group);
                }
            }
            int state = START;
            for (int i = 0; i < length; i++) {
                int mode = leastMode(i, state, data[from + i] & 255, group);
                modes[i] = (byte) mode;
                state = NEXT[STATES * mode + state];
            }
            return fewest[START];
        }

        /** Of the modes with the fewest bits to the end the least. */
        private int leastMode(int i, int state, int b, int group) {
            int best = 2;
            for (int mode = 1; mode >= 0; mode--) {
                if (isOf(mode, b) && bitsBy(i, state, mode, group) <= bitsBy(i, state, best, group)) {
                    best = mode;
                }
            }
            return best;
        }

        private int bitsBy(int i, int state, int mode, int group) {
            int next = NEXT[STATES * mode + state];
            int head = MODES[state] == mode ? 0 : 4 + COUNT_BITS[3 * group + mode];
            return head + BITS[next] + fewest[STATES * (i + 1) + next];
        }

        private void write(byte[] data, int from, int length, int version, int holds) {
            Arrays.fill(bytes, 0, holds, (byte) 0);
            bit = 0;
            int start = 0;
            for (int i = 1; i <= length; i++) {
                if (i == length || modes[i] != modes[start]) {
                    int mode = modes[start];
                    put(1 << mode, 4);
                    put(i - start, COUNT_BITS[3 * groupOf(version) + mode]);
                    writeBytes(data, from + start, from + i, mode);
                    start = i;
                }
            }
            // the four bits 0, and those up to a whole byte, stand there already
            int filler = 236;
            for (int at = (Math.min(bit + 4, 8 * holds) + 7) / 8; at < holds; at++) {
                bytes[at] = (byte) filler;
                filler ^= 236 ^ 17;
            }
        }

        private void writeBytes(byte[] data, int from, int end, int mode) {
            int each = 3 - mode;
            for (int i = from; i < end; i += each) {
                int part = Math.min(each, end - i);
                int number = 0;
                for (int j = i; j < i + part; j++) {
                    int b = data[j] & 255;
                    number = mode == 2 ? b : number * base(mode) + SIGNS.indexOf((char) b);
                }
                put(number, partBits(mode, part));
            }
        }

        private static int base(int mode) {
            return mode == 0 ? 10 : 45;
        }

        /** The bits of so many bytes that are written as one number. */
        private static int partBits(int mode, int part) {
            return mode == 0 ? 3 * part + 1 : mode == 1 ? 5 * part + 1 : 8;
        }

        private void put(int value, int width) {
            for (int i = width - 1; i >= 0; i--) {
                if ((value >> i & 1) != 0 && bit / 8 < BYTES_MOST) {
                    bytes[bit / 8] |= (byte) (128 >> bit % 8);
                }
                bit++;
            }
        }

        private int take(int width) {
            int value = 0;
            for (int i = 0; i < width; i++) {
                value = value << 1 | (bytes[bit / 8] >> (7 - bit % 8) & 1);
                bit++;
            }
            return value;
        }

        /** Reads the segments; the fault that was met, 0 when there was none. */
        int unpack(int version, int level, byte[] out) {
            bits = 8 * Blocks.holds(version, level);
            bit = 0;
            count = 0;
            size = 0;
            int fault = 0;
            for (int turn = 0; turn < bits && fault == 0 && bits - bit >= 4; turn++) {
                int mode = modeOf(take(4));
                if (mode == 3) {
                    return 0;
                }
                fault = mode == NONE ? 3 : unpackOne(mode, groupOf(version), out);
                count++;
            }
            return fault;
        }

        /** 3 stands for the end. */
        private static int modeOf(int four) {
            switch (four) {
                case 0:
                    return 3;
                case 1:
                    return 0;
                case 2:
                    return 1;
                case 4:
                    return 2;
                default:
                    return NONE;
            }
        }

        private int unpackOne(int mode, int group, byte[] out) {
            int countBits = COUNT_BITS[3 * group + mode];
            if (bits - bit < countBits) {
                return 4;
            }
            int length = take(countBits);
            if (size + length > READ_MOST) {
                return 6;
            }
            int each = 3 - mode;
            for (int i = 0; i < length; i += each) {
                int part = Math.min(each, length - i);
                if (bits - bit < partBits(mode, part)) {
                    return 4;
                }
                if (!unpackPart(take(partBits(mode, part)), mode, part, out)) {
                    return 5;
                }
            }
            return 0;
        }

        private boolean unpackPart(int number, int mode, int part, byte[] out) {
            if (mode == 2) {
                out[size] = (byte) number;
                size++;
                return true;
            }
            int rest = number;
            for (int j = part - 1; j >= 0; j--) {
                out[size + j] = (byte) SIGNS.charAt(rest % base(mode));
                rest /= base(mode);
            }
            size += part;
            return rest == 0;
        }
    }

    /** Finds the places at which square symbols can stand. */
    private static final class Finder {
        static final int PLACES_MOST = 300;
        static final int SUMS = Sheet.MOST + 1;
        /** The corners: above right, above left, below left, below right; so quarter q has none at 3 - q. */
        static final int[] RIGHT = {1, 0, 0, 1};
        static final int[] DOWN = {0, 0, 1, 1};

        int leaders;
        private final Sheet sheet;
        /** The dark dots left of and above each corner of a dot. */
        private final int[] sums = new int[SUMS * SUMS];
        /** The wrong dots of seven times seven blocks of a corner, from each dot on. */
        private final short[] cornerWrong = new short[Sheet.MOST * Sheet.MOST];
        private final long[] keys = new long[PLACES_MOST];
        private final int[] wrongs = new int[PLACES_MOST];
        private final boolean[] leads = new boolean[PLACES_MOST];
        /** The wrong dots of the four corners of a place, with those along their inner edges. */
        private final int[] corners = new int[4];
        private int places;
        private int m;
        private int limit;

        Finder(Sheet sheet) {
            this.sheet = sheet;
        }

        int search(int least, int most, int newLimit) {
            leaders = 0;
            places = 0;
            limit = newLimit;
            addUp();
            int room = Math.min(sheet.width, sheet.height);
            int dark = sums[sheet.height * SUMS + sheet.width];
            for (m = least; m <= most && 21 * m <= room; m++) {
                if (dark + limit >= darkMarks(1) * m * m) {
                    lookAtCorners();
                    if (!lookAtAll(room)) {
                        return NONE;
                    }
                }
            }
            keepLeaders();
            return leaders;
        }

        private void addUp() {
            for (int y = 0; y < sheet.height; y++) {
                int row = 0;
                int at = (y + 1) * SUMS;
                for (int x = 0; x < sheet.width; x++) {
                    if (sheet.isDark(x, y)) {
                        row++;
                    }
                    sums[at + x + 1] = sums[at + x + 1 - SUMS] + row;
                }
            }
        }

        /** The dark dots of a square of n times n dots. */
        private int darkIn(int x, int y, int n) {
            int at = y * SUMS + x;
            int below = at + n * SUMS;
            return sums[below + n] - sums[below] - sums[at + n] + sums[at];
        }

        private void lookAtCorners() {
            for (int y = 0; y + 7 * m <= sheet.height; y++) {
                for (int x = 0; x + 7 * m <= sheet.width; x++) {
                    int wrong = 9 * m * m - darkIn(x + 2 * m, y + 2 * m, 3 * m);
                    if (wrong <= limit) {
                        wrong = ringsWrong(x, y);
                    }
                    // more than the limit is all alike
                    cornerWrong[y * Sheet.MOST + x] = (short) Math.min(wrong, limit + 1);
                }
            }
        }

        private int ringsWrong(int x, int y) {
            int core = darkIn(x + 2 * m, y + 2 * m, 3 * m);
            int middle = darkIn(x + m, y + m, 5 * m);
            int whole = darkIn(x, y, 7 * m);
            return 33 * m * m - whole + 2 * middle - 2 * core;
        }

        /** How many marks of a version are dark. */
        private static int darkMarks(int v) {
            return 102 + 4 * v;
        }

        private static int lightMarks(int v) {
            return 93 + 4 * v;
        }

        /** Looks from each corner with few wrong dots; false when there are too many places. */
        private boolean lookAtAll(int room) {
            for (int y = 0; y + 7 * m <= sheet.height; y++) {
                for (int x = 0; x + 7 * m <= sheet.width; x++) {
                    for (int c = 0; c < 4 && leadsOn(cornerWrong[y * Sheet.MOST + x]); c++) {
                        if (hasEdges(x, y, c) && leadsOn(edgedWrong(x, y, c)) && !lookFrom(x, y, c, room)) {
                            return false;
                        }
                    }
                }
            }
            return true;
        }

        /** Whether it is worth to look from such a corner: one of a place's three has a third of its wrong dots or less. */
        private boolean leadsOn(int wrong) {
            return wrong <= limit / 3;
        }

        /** Whether the light blocks along the inner edges of corner c lie on the sheet. */
        private boolean hasEdges(int x, int y, int c) {
            int left = x - m * RIGHT[c];
            int top = y - m * DOWN[c];
            return left >= 0 && top >= 0 && left + 8 * m <= sheet.width && top + 8 * m <= sheet.height;
        }

        /** The wrong dots of corner c with those along its inner edges. */
        private int edgedWrong(int x, int y, int c) {
            int wrong = cornerWrong[y * Sheet.MOST + x];
            if (wrong > limit) {
                return wrong;
            }
            return wrong + darkIn(x - m * RIGHT[c], y - m * DOWN[c], 8 * m) - darkIn(x, y, 7 * m);
        }

        private boolean lookFrom(int cornerX, int cornerY, int c, int room) {
            for (int v = 1; v <= 40 && (17 + 4 * v) * m <= room; v++) {
                int far = (10 + 4 * v) * m;
                if (!lookAt(cornerX - far * RIGHT[c], cornerY - far * DOWN[c], v, c)) {
                    return false;
                }
            }
            return true;
        }

        /** Looks at the places there, unless they were seen from a corner before c. */
        private boolean lookAt(int x, int y, int v, int c) {
            int side = 17 + 4 * v;
            if (x < 0 || y < 0 || x + side * m > sheet.width || y + side * m > sheet.height || !hasShades(x, y, v)) {
                return true;
            }
            int far = (side - 7) * m;
            int sum = 0;
            for (int i = 0; i < 4; i++) {
                corners[i] = edgedWrong(x + far * RIGHT[i], y + far * DOWN[i], i);
                sum += corners[i];
                if (i < c && leadsOn(corners[i])) {
                    return true;
                }
            }
            for (int q = 0; q < 4; q++) {
                int wrong = sum - corners[3 - q];
                if (wrong <= limit) {
                    wrong = wrongAt(x, y, side, q, wrong);
                }
                if (wrong <= limit && !add(x, y, v, q, wrong)) {
                    return false;
                }
            }
            return true;
        }

        /** Whether there are as many dark and light dots as marks need; it spares plain paper the rest. */
        private boolean hasShades(int x, int y, int v) {
            int side = (17 + 4 * v) * m;
            int dark = darkIn(x, y, side);
            return dark + limit >= darkMarks(v) * m * m && side * side - dark + limit >= lightMarks(v) * m * m;
        }

        /** Adds the other wrong dots of a place to those of its corners, no further than beyond the limit. */
        private int wrongAt(int x, int y, int side, int q, int ofCorners) {
            int far = (side - 7) * m;
            int wrong = ofCorners + m * m - darkIn(x + m * loneX(side, q), y + m * loneY(side, q), m);
            int row = y + (q < 2 ? 6 * m : far);
            int column = x + (q == 0 || q == 3 ? 6 * m : far);
            for (int i = 8; i <= side - 9 && wrong <= limit; i++) {
                int dark = darkIn(x + i * m, row, m) + darkIn(column, y + i * m, m);
                wrong += i % 2 == 0 ? 2 * m * m - dark : dark;
            }
            return wrong;
        }

        /** The block of the module (8, side - 8). */
        private static int loneX(int side, int q) {
            return q == 0 ? 8 : q == 1 ? 7 : q == 2 ? side - 9 : side - 8;
        }

        private static int loneY(int side, int q) {
            return q == 0 ? side - 8 : q == 1 ? 8 : q == 2 ? 7 : side - 9;
        }

        /** Keeps a place so that all stay in their order; false when there is no more room. */
        private boolean add(int x, int y, int v, int q, int wrong) {
            if (places == PLACES_MOST) {
                return false;
            }
            long key = ((((long) y * 512 + x) * 32 + m) * 64 + v) * 4 + q;
            int at = places;
            while (at > 0 && keys[at - 1] > key) {
                keys[at] = keys[at - 1];
                wrongs[at] = wrongs[at - 1];
                at--;
            }
            keys[at] = key;
            wrongs[at] = wrong;
            places++;
            return true;
        }

        /** What found() tells of a place. */
        int part(int k, int what) {
            long key = keys[k];
            switch (what) {
                case 0:
                    return (int) (key >> 13) & 511;
                case 1:
                    return (int) (key >> 22);
                case 2:
                    return (int) (key >> 8) & 31;
                case 3:
                    return (int) (key >> 2) & 63;
                case 4:
                    return (int) key & 3;
                default:
                    return wrongs[k];
            }
        }

        private void keepLeaders() {
            for (int i = 0; i < places; i++) {
                leads[i] = true;
                for (int j = 0; j < places; j++) {
                    boolean better = wrongs[j] < wrongs[i] || (wrongs[j] == wrongs[i] && j < i);
                    if (better && haveCommonDot(i, j)) {
                        leads[i] = false;
                    }
                }
            }
            for (int i = 0; i < places; i++) {
                if (leads[i]) {
                    keys[leaders] = keys[i];
                    wrongs[leaders] = wrongs[i];
                    leaders++;
                }
            }
        }

        private boolean haveCommonDot(int i, int j) {
            int sideI = part(i, 2) * (17 + 4 * part(i, 3));
            int sideJ = part(j, 2) * (17 + 4 * part(j, 3));
            return part(i, 0) < part(j, 0) + sideJ && part(j, 0) < part(i, 0) + sideI
                && part(i, 1) < part(j, 1) + sideJ && part(j, 1) < part(i, 1) + sideI;
        }

        /** Puts the modules of a place, by the sheet as it is now, into a grid. */
        void fill(int k, Grid grid) {
            int size = part(k, 2);
            int q = part(k, 4);
            int last = grid.side - 1;
            for (int j = 0; j <= last; j++) {
                for (int i = 0; i <= last; i++) {
                    int a = q == 0 ? i : q == 1 ? last - j : q == 2 ? last - i : j;
                    int b = q == 0 ? j : q == 1 ? i : q == 2 ? last - j : last - i;
                    int dark = darkNow(part(k, 0) + size * a, part(k, 1) + size * b, size);
                    grid.set(i, j, 2 * dark > size * size);
                }
            }
        }

        private int darkNow(int x, int y, int n) {
            int dark = 0;
            for (int row = y; row < y + n; row++) {
                dark += Long.bitCount(sheet.wordFrom(x, row) & (1L << n) - 1);
            }
            return dark;
        }
    }
}
