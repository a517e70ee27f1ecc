import java.lang.reflect.Constructor;
import java.lang.reflect.Field;
import java.lang.reflect.Method;
import java.lang.reflect.Modifier;
import java.util.Set;
import java.util.TreeSet;

/** The public face, a new object, and that calls make nothing. */
public final class FaceTest {
    /** The methods, with the exceptions that they tell of behind them: A for the argument, I for the index. */
    private static final String[] FACE = {
        "int bars(int,int,boolean) I", "int decode(int) I", "int drawn(int)", "int fault()", "int feed(int,long) A",
        "int found(int,int) A", "int label(int,int) A", "int order(int,int) AI", "int place()", "int print(int) I",
        "int read()", "int reading(int) A", "int run(int,int,int,boolean) I", "int scan(int,int,int) A",
        "int spoil(int,int,long)", "int told(int) A", "int wipe()", "long data(int,int) I", "long dots(int,int)",
        "long got(int)", "void cell(int,int,int,int) AI", "void font(int,int,int,int) A", "void turn(int) A"};

    private static long sink;

    public static void main(String[] args) {
        Check check = new Check();
        face(check);
        newObject(check);
        makesNothing(check);
        example(check);
        check.exit();
    }

    private static void face(Check check) {
        check.begin("the public face");
        Set<String> seen = new TreeSet<>();
        for (Method method : LabelHouse.class.getDeclaredMethods()) {
            int modifiers = method.getModifiers();
            if (Modifier.isPrivate(modifiers) || method.isSynthetic()) {
                continue;
            }
            check.isTrue(method + " is public and no more", modifiers == Modifier.PUBLIC);
            StringBuilder text = new StringBuilder(method.getReturnType() + " " + method.getName() + "(");
            for (int i = 0; i < method.getParameterCount(); i++) {
                text.append(i == 0 ? "" : ",").append(method.getParameterTypes()[i]);
            }
            seen.add(text + ")" + thrown(method));
        }
        check.due("methods", seen.toString(), new TreeSet<>(Set.of(FACE)).toString());
        for (Field field : LabelHouse.class.getDeclaredFields()) {
            boolean isNone = field.getName().equals("NONE");
            int due = Modifier.PUBLIC | Modifier.STATIC | Modifier.FINAL;
            check.isTrue(field + " is private, or NONE", isNone ? field.getModifiers() == due : Modifier.isPrivate(field.getModifiers()));
        }
        Constructor<?>[] constructors = LabelHouse.class.getDeclaredConstructors();
        check.due("constructors", constructors.length, 1);
        check.isTrue("the constructor is public", constructors[0].getModifiers() == Modifier.PUBLIC);
        check.due("what it takes and throws", constructors[0].getParameterCount() + constructors[0].getExceptionTypes().length, 0);
        check.due("the class is public and final", LabelHouse.class.getModifiers(), Modifier.PUBLIC | Modifier.FINAL);
        check.due("NONE", LabelHouse.NONE, -1);
        check.end();
    }

    private static String thrown(Method method) {
        StringBuilder text = new StringBuilder();
        for (Class<?> each : method.getExceptionTypes()) {
            text.append(text.length() == 0 ? " " : "");
            text.append(each == IllegalArgumentException.class ? "A" : each == IndexOutOfBoundsException.class ? "I" : each.getName());
        }
        return text.toString();
    }

    private static void newObject(Check check) {
        check.begin("promise 1: a new object");
        LabelHouse house = new LabelHouse();
        check.due("fault()", house.fault(), 0);
        check.due("place()", house.place(), -1);
        check.due("label(0, 0)", house.label(0, 0), -1);
        check.outOfBounds("order(0, 0)", () -> house.order(0, 0));
        check.outOfBounds("print(0)", () -> house.print(0));
        check.due("drawn(0)", house.drawn(0), -1);
        check.due("found(0, 0)", house.found(0, 0), -1);
        check.outOfBounds("decode(0)", () -> house.decode(0));
        int[] told = {64, 64, -1, -1, -1, -1, 0};
        for (int what = 0; what < 7; what++) {
            check.due("told(" + what + ")", house.told(what), told[what]);
            check.due("reading(" + what + ")", house.reading(what), what == 6 ? 0 : -1);
        }
        for (int y = 0; y < 64; y++) {
            check.due("dots(0, " + y + ")", house.dots(0, y), 0);
        }
        check.due("got(0)", house.got(0), 0);
        check.due("wipe()", house.wipe(), 0);
        check.due("read()", house.read(), 0);
        for (int k = 0; k < 8; k++) {
            Houses.read(house, "^L9,9^U" + k + "^E");
            check.due("fault() for form " + k, house.fault(), 9);
        }
        for (int k = 0; k < 10; k++) {
            Houses.read(house, "^L9,9^T^V" + k + "^;^E");
            check.due("fault() for variable " + k, house.fault(), 8);
        }
        newFonts(check);
        check.end();
    }

    /** Cells are 8 times 8 dots, none dark, without a gap. */
    private static void newFonts(Check check) {
        for (int font = 0; font < 4; font++) {
            int each = font;
            LabelHouse house = new LabelHouse();
            Houses.read(house, "^L40,40^T" + font + "^XAB^;^E");
            house.print(0);
            check.due("dots of cells", house.told(6), 0);
            house.cell(font, 66, 7, 255);
            house.print(0);
            check.due("the gap is 0 and w 8", Houses.row(house, 7), "........########" + ".".repeat(24));
            check.outOfBounds("row 8 of a cell", () -> {
                house.cell(each, 66, 8, 0);
                return 0;
            });
        }
    }

    /** One of each call that does much; it is run again and again until nothing is loaded any more. */
    private static void useAll(LabelHouse house, String tape) {
        Houses.feed(house, "x");
        sink += house.wipe();
        Houses.feed(house, tape);
        sink += house.read() + house.fault() + house.place() + house.label(0, 0) + house.order(0, 0) + house.data(0, 0);
        house.font(0, 5, 7, 1);
        house.cell(0, 65, 1, 21);
        sink += house.print(0) + house.drawn(0) + house.spoil(3, 100, 5) + house.told(2) + house.told(4) + house.dots(0, 0);
        house.turn(1);
        sink += house.run(5, 5, 0, true) + house.scan(1, 3, 20) + house.found(0, 0) + house.decode(0);
        house.turn(3);
        sink += house.bars(80, 40, false) + house.reading(0) + house.got(0) + house.wipe();
        Houses.feed(house, "^L1,1");
        sink += house.read();
    }

    private static void makesNothing(Check check) {
        check.begin("a call makes nothing");
        String tape = "^S1^F9,9,2^;^Z^K1,abc7^L160,120^C2^H100,5^U1^H^O4,4^Q2,1^Xhello 12345678^;^O80,40^B1,20,0,1^XAb12345^;"
            + "^O80,90^N1,9^X123456789012^;^H110,5^W4,9^V1^#1^;^I30,20,3^;^G40,20,3^;^P8^X00ff^;^E";
        LabelHouse house = new LabelHouse();
        com.sun.management.ThreadMXBean bean =
            (com.sun.management.ThreadMXBean) java.lang.management.ManagementFactory.getThreadMXBean();
        long thread = Thread.currentThread().getId();
        long least = Long.MAX_VALUE;
        for (int i = 0; i < 20; i++) {
            long before = bean.getThreadAllocatedBytes(thread);
            useAll(house, tape);
            least = Math.min(least, bean.getThreadAllocatedBytes(thread) - before);
        }
        check.due("bytes that all calls made", least, 0);
        check.isTrue("something was answered", sink != 0);
        check.end();
    }

    /** What README.md shows. */
    private static void example(Check check) {
        check.begin("README: the example");
        LabelHouse house = new LabelHouse();
        byte[] text = "^L200,100^O10,10^Q3,2^Xhello^;^O100,10^B1,40^XAB12^;^E".getBytes();
        for (byte each : text) {
            house.feed(1, each);
        }
        check.due("read()", house.read(), 1);
        check.due("fault()", house.fault(), 0);
        check.due("print(0)", house.print(0), 2);
        check.due("scan(1, 4, 0)", house.scan(1, 4, 0), 1);
        check.due("decode(0)", house.decode(0), 5);
        check.due("got(0)", house.got(0), 0x6F_6C6C_6568L);
        check.due("bars(100, 10, false)", house.bars(100, 10, false), 4);
        check.due("its signs", house.got(0), 0x3231_4241L);
        check.end();
    }
}
