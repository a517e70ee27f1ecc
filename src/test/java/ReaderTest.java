import java.util.Random;
import java.util.function.Function;

/** Promises 6 to 11: random texts of labels, read by the class and by a reader that is written by the document alone. */
public final class ReaderTest {
    private static final Check CHECK = new Check();
    private static final String BYTES = "^^^SLKEHCDUORXV#TWBNQFIGP;;Z0123456789,,,-_ \n\0aF\u00e9";
    private static final String SIGNS = "0123456789 09 \nabAB-,;#\u00e9\u00ff\0";
    private static final String[] PIECES = {
        "^;", "^;", "^;", "^O1,2", "^O", "^R", "^Xab 7", "^X1234", "^X", "^X123456789012", "^V1", "^V2", "^K1,xy8", "^K2,",
        "^K,7", "^#5", "^#-7", "^#", "^T", "^T1", "^D2,3,4,1", "^D", "^W3,4,2,5", "^W2", "^B,,1,1", "^B", "^N", "^Q",
        "^Q1,2,3,1", "^F", "^I9", "^G5,-6", "^P", "^P16", "^H3,4", "^H", "^C3", "^C", "^U1", "^U2", "^F^;", "^T^Xa9^;",
        "^W2^X1 2^;", "^B,,,1^V1^;", "^N^X123456789012^#9^;", "^P^X00^#1^;", " ", "\n"};
    private static final String KINDS = "TTWWWBBNNQFIGPP";

    public static void main(String[] args) {
        CHECK.test("promises 6 to 11: labels as they ought to be", () -> compare(1, r -> new Maker(r, 0).tape()));
        CHECK.test("promises 6 to 11: labels with wrong parts", () -> compare(2, r -> new Maker(r, 40).tape()));
        CHECK.test("promises 6 to 11: labels with wrong bytes", () -> compare(3, r -> spoil(r, new Maker(r, 0).tape())));
        CHECK.test("promises 6 to 11: commands in any order", () -> compare(4, ReaderTest::soup));
        CHECK.test("promises 6 to 11: bytes in any order", () -> compare(5, ReaderTest::bytes));
        CHECK.test("promises 6 to 11: much of all", () -> compare(6, ReaderTest::much));
        CHECK.exit();
    }

    /** Each house reads a few tapes, so that forms and variables of one are used by the next. */
    private static void compare(int seed, Function<Random, String> maker) {
        Random random = new Random(seed);
        for (int i = 0; i < 1000; i++) {
            LabelHouse house = new LabelHouse();
            Reader reader = new Reader();
            for (int turn = 0; turn < 3; turn++) {
                String tape = maker.apply(random);
                compare(house, reader, tape.length() > 4096 ? tape.substring(0, 4096) : tape);
            }
        }
    }

    private static void compare(LabelHouse house, Reader reader, String tape) {
        String what = "read() of " + tape;
        CHECK.due(what, Houses.read(house, tape), reader.read(tape));
        CHECK.due("fault() of " + what, house.fault(), reader.fault);
        CHECK.due("place() of " + what, house.place(), reader.place);
        StringBuilder labels = new StringBuilder();
        for (int k = 0; house.label(k, 0) != LabelHouse.NONE; k++) {
            labels.append(k == 0 ? "" : "|").append(house.label(k, 0)).append(' ').append(house.label(k, 1));
            labels.append(' ').append(house.label(k, 2)).append(' ').append(house.label(k, 3));
        }
        CHECK.due("labels of " + what, labels.toString(), String.join("|", reader.labels));
        CHECK.due("orders of " + what, Houses.orders(house), String.join("|", reader.orders));
    }

    private static String bytes(Random random) {
        String start = random.nextInt(3) == 0 ? "" : "^L9,9";
        return start + Houses.some(random, BYTES, random.nextInt(40)) + (random.nextBoolean() ? "^E" : "");
    }

    private static String soup(Random random) {
        StringBuilder tape = new StringBuilder("^S1^T1,,,1^X5^;^Z^S2 ^U1^R^Z^K1,ab77^L9,9");
        for (int i = random.nextInt(20); i > 0; i--) {
            tape.append(PIECES[random.nextInt(PIECES.length)]);
            tape.append(random.nextInt(20) == 0 ? "^E^L8,8" : random.nextInt(200) == 0 ? "^L7,7" : "");
        }
        return tape + (random.nextInt(20) == 0 ? "" : "^E");
    }

    /** Forms that use forms, so that labels, orders and commands come near to what may be. */
    private static String much(Random random) {
        String[] each = {"^F^;", "^R", "^W1^Xa b 7^#-3^;", "^B,,,1^X199^#9^;"};
        StringBuilder tape = new StringBuilder();
        for (int k = 0; k < 3; k++) {
            tape.append("^S").append(k).append(each[random.nextInt(4)].repeat(1 + random.nextInt(24))).append("^Z");
        }
        for (int k = 3; k < 6; k++) {
            tape.append("^S").append(k).append(("^U" + random.nextInt(k)).repeat(1 + random.nextInt(6))).append("^Z");
        }
        for (int i = 1 + random.nextInt(3); i > 0; i--) {
            tape.append("^L9,9^C").append(1 + random.nextInt(6));
            tape.append(("^U" + random.nextInt(6)).repeat(random.nextInt(6))).append("^E");
        }
        return tape.toString();
    }

    private static String spoil(Random random, String tape) {
        if (tape.isEmpty()) {
            return tape;
        }
        int at = random.nextInt(tape.length());
        String other = Houses.some(random, BYTES, random.nextInt(3));
        return tape.substring(0, at) + other + tape.substring(at + random.nextInt(2));
    }

    /** Makes a tape of which most is right. */
    private static final class Maker {
        private final Random random;
        /** One of so many numbers and pieces of data is wrong; none if it is 0. */
        private final int wrongs;
        private final StringBuilder tape = new StringBuilder();

        Maker(Random random, int wrongs) {
            this.random = random;
            this.wrongs = wrongs;
        }

        private boolean isWrong() {
            return wrongs > 0 && random.nextInt(wrongs) == 0;
        }

        String tape() {
            for (int i = random.nextInt(4); i > 0; i--) {
                variable();
            }
            for (int i = random.nextInt(4); i > 0; i--) {
                form();
            }
            for (int i = random.nextInt(4); i > 0; i--) {
                label();
            }
            return tape.toString();
        }

        private void put(String piece) {
            if (random.nextInt(8) == 0) {
                tape.append(Houses.some(random, " \n\0\t", 2));
            }
            tape.append(piece);
        }

        /** A command with its numbers, of ranges and perhaps what comes when one is left out. */
        private void put(char letter, int... ranges) {
            int count = random.nextInt(4) == 0 ? random.nextInt(ranges.length / 2 + 1) : ranges.length / 2;
            StringBuilder piece = new StringBuilder("^").append(letter);
            for (int i = 0; i < count; i++) {
                piece.append(i == 0 ? "" : ",").append(number(ranges[2 * i], ranges[2 * i + 1]));
            }
            put(isWrong() ? piece + "," : piece.toString());
        }

        private String number(int least, int most) {
            if (isWrong()) {
                String[] others = {"-", "123456", Integer.toString(least - 1), Integer.toString(most + 1), "-99999", "--1"};
                return others[random.nextInt(others.length)];
            }
            if (random.nextInt(8) == 0) {
                return "";
            }
            int value = switch (random.nextInt(6)) {
                case 0 -> least;
                case 1 -> most;
                case 2 -> Math.max(least, Math.min(most, 0));
                default -> least + random.nextInt(Math.min(most - least + 1, 60));
            };
            String digits = String.format(random.nextInt(9) == 0 ? "%05d" : "%d", Math.abs(value));
            return value < 0 || (value == 0 && random.nextInt(9) == 0) ? "-" + digits : digits;
        }

        private void variable() {
            tape.append("^K").append(random.nextInt(3) == 0 ? "" : Integer.toString(random.nextInt(10)));
            tape.append(isWrong() ? "" : ",").append(data());
        }

        private String data() {
            if (isWrong()) {
                return Houses.some(random, SIGNS, 195 + random.nextInt(12)) + (random.nextBoolean() ? "_4" : "");
            }
            int size = random.nextInt(20) == 0 ? 200 : random.nextInt(6) == 0 ? random.nextInt(200) : random.nextInt(14);
            String plain = Houses.some(random, SIGNS, size);
            return Houses.escaped(random.nextInt(3) == 0 || size == 0 ? plain : plain.substring(1) + random.nextInt(10));
        }

        private void form() {
            int from = tape.length();
            tape.append("^S").append(random.nextInt(8));
            int start = tape.length();
            tape.append(' ');
            for (int i = random.nextInt(3); i >= 0 && tape.length() - start < 250; i--) {
                inLabel(2);
            }
            if (tape.length() - start > 400 && !isWrong()) {
                tape.setLength(from);
            } else {
                tape.append(isWrong() ? "" : "^Z");
            }
        }

        private void label() {
            tape.append("^L").append(1 + random.nextInt(512)).append(',').append(1 + random.nextInt(512));
            for (int i = random.nextInt(8); i > 0; i--) {
                inLabel(9);
            }
            put(isWrong() ? "" : "^E");
        }

        private void inLabel(int forms) {
            switch (random.nextInt(9)) {
                case 0 -> put('H', -40, 40, -40, 40);
                case 1 -> put('C', 1, random.nextInt(6) == 0 ? 12 : 3);
                case 2 -> put('D', 0, 3, 1, 10, 1, 10, 0, 3);
                case 3 -> variable();
                case 4 -> {
                    if (random.nextInt(forms) == 0) {
                        put('U', 0, 7);
                    }
                }
                default -> field();
            }
        }

        private void field() {
            for (int i = random.nextInt(4); i > 0; i--) {
                part();
            }
            char kind = KINDS.charAt(random.nextInt(KINDS.length()));
            switch (kind) {
                case 'T' -> put(kind, 0, 3, 1, 10, 1, 10, 0, 3);
                case 'W' -> put(kind, 1, 99, 0, 60, 0, 2, 0, 30);
                case 'B' -> put(kind, 1, 50, 1, 2048, 0, 3, 0, 1);
                case 'N' -> put(kind, 1, 50, 1, 2048, 0, 3);
                case 'Q' -> put(kind, 1, 50, 0, 3, -1, 7, 0, 3);
                case 'G' -> put(kind, -4096, 4096, -4096, 4096, 1, 200);
                case 'P' -> put(kind, 1, 32);
                default -> put(kind, 1, 2048, 1, 2048, 1, 200);
            }
            put("^X" + (kind == 'N' ? Houses.some(random, "0123456789", isWrong() ? 11 : 12)
                : kind == 'P' ? Houses.some(random, "0123456789abcdefABCDEF", 24 * random.nextInt(1, 8)) : data()));
            for (int i = random.nextInt(3); i > 0; i--) {
                if (random.nextInt(3) == 0) {
                    part();
                }
            }
            put(random.nextInt(12) == 0 ? "" : "^;");
        }

        private void part() {
            switch (random.nextInt(6)) {
                case 0, 1 -> put('O', -40, 40, -4096, 4096);
                case 2 -> put("^R");
                case 3 -> put('V', 0, 9);
                case 4 -> put('#', -99, 99);
                default -> put("^X" + data());
            }
        }
    }
}
