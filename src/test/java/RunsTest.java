import java.io.IOException;
import java.nio.file.DirectoryStream;
import java.nio.file.Files;
import java.nio.file.Path;
import java.util.ArrayList;
import java.util.Collections;
import java.util.List;

/**
 * Runs of calls under src/test/runs with the answers of another program, written by the document alone in another
 * language: each line has a call and, behind ' = ', what is due (or the name of an exception, without its ending).
 */
public final class RunsTest {
    public static void main(String[] args) throws IOException {
        Check check = new Check();
        List<Path> files = new ArrayList<>();
        try (DirectoryStream<Path> folder = Files.newDirectoryStream(Path.of("src/test/runs"), "*.txt")) {
            folder.forEach(files::add);
        }
        Collections.sort(files);
        for (Path file : files) {
            check.begin("runs of " + file.getFileName());
            replay(check, Files.readAllLines(file));
            check.end();
        }
        check.exit();
    }

    private static void replay(Check check, List<String> lines) {
        LabelHouse house = new LabelHouse();
        int number = 0;
        for (String line : lines) {
            number++;
            String[] parts = line.split(" = ");
            if (line.equals("new")) {
                house = new LabelHouse();
            } else {
                String got = answer(house, parts[0].split(" "));
                check.due("line " + number + ", " + parts[0], got, parts.length == 1 ? "" : parts[1]);
            }
        }
        check.isTrue("there are calls", number > 0);
    }

    private static String answer(LabelHouse house, String[] call) {
        try {
            int[] n = new int[5];
            for (int i = 1; i < call.length; i++) {
                n[i] = (int) Long.parseLong(call[i]);
            }
            long last = call.length > 1 ? Long.parseLong(call[call.length - 1]) : 0;
            return ask(house, call[0], n, last);
        } catch (RuntimeException e) {
            return e.getClass().getSimpleName().replace("Exception", "");
        }
    }

    private static String ask(LabelHouse house, String name, int[] n, long last) {
        switch (name) {
            case "font":
                house.font(n[1], n[2], n[3], n[4]);
                return "";
            case "cell":
                house.cell(n[1], n[2], n[3], n[4]);
                return "";
            case "turn":
                house.turn(n[1]);
                return "";
            default:
                return Long.toString(number(house, name, n, last));
        }
    }

    private static long number(LabelHouse house, String name, int[] n, long last) {
        return switch (name) {
            case "feed" -> house.feed(n[1], last);
            case "wipe" -> house.wipe();
            case "read" -> house.read();
            case "fault" -> house.fault();
            case "place" -> house.place();
            case "label" -> house.label(n[1], n[2]);
            case "order" -> house.order(n[1], n[2]);
            case "data" -> house.data(n[1], n[2]);
            case "print" -> house.print(n[1]);
            case "drawn" -> house.drawn(n[1]);
            case "spoil" -> house.spoil(n[1], n[2], last);
            case "told" -> house.told(n[1]);
            case "dots" -> house.dots(n[1], n[2]);
            case "run" -> house.run(n[1], n[2], n[3], last == 1);
            case "scan" -> house.scan(n[1], n[2], n[3]);
            case "found" -> house.found(n[1], n[2]);
            case "decode" -> house.decode(n[1]);
            case "bars" -> house.bars(n[1], n[2], last == 1);
            case "reading" -> house.reading(n[1]);
            case "got" -> house.got(n[1]);
            default -> throw new UnsupportedOperationException(name);
        };
    }
}
