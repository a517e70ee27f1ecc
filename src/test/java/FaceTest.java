/** A first look at the whole class: a new object answers as the document says. */
public final class FaceTest {
    public static void main(String[] args) {
        Check check = new Check();
        check.begin("promise 1: a new object");
        LabelHouse house = new LabelHouse();
        check.due("wipe()", house.wipe(), 0);
        check.due("fault()", house.fault(), 0);
        check.due("place()", house.place(), LabelHouse.NONE);
        check.due("told(6)", house.told(6), 0);
        check.end();
        check.exit();
    }
}
