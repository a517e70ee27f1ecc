/** Counts what is not as due, test by test. */
final class Check {
    interface Call {
        long answer();
    }

    private String name = "";
    private int wrong;
    private boolean anyWrong;

    /** One test: what its body throws is a fault of this test alone. */
    void test(String newName, Runnable body) {
        begin(newName);
        try {
            body.run();
        } catch (RuntimeException e) {
            wrong++;
            System.out.println(name + ": threw " + e + " at " + e.getStackTrace()[0]);
        }
        end();
    }

    void begin(String newName) {
        name = newName;
        wrong = 0;
    }

    void due(String what, long got, long want) {
        if (got != want) {
            wrong++;
            System.out.println(name + ": " + what + " answered " + got + ", due is " + want);
        }
    }

    void due(String what, String got, String want) {
        if (!got.equals(want)) {
            wrong++;
            System.out.println(name + ": " + what + " answered " + got + ", due is " + want);
        }
    }

    void isTrue(String what, boolean holds) {
        if (!holds) {
            wrong++;
            System.out.println(name + ": " + what + " does not hold");
        }
    }

    /** The call must throw exactly this. */
    void thrown(String what, Class<? extends RuntimeException> due, Call call) {
        try {
            long got = call.answer();
            wrong++;
            System.out.println(name + ": " + what + " answered " + got + ", due is " + due.getSimpleName());
        } catch (RuntimeException e) {
            if (e.getClass() != due) {
                wrong++;
                System.out.println(name + ": " + what + " threw " + e + ", due is " + due.getSimpleName());
            }
        }
    }

    void outOfBounds(String what, Call call) {
        thrown(what, IndexOutOfBoundsException.class, call);
    }

    void badArgument(String what, Call call) {
        thrown(what, IllegalArgumentException.class, call);
    }

    void end() {
        System.out.println((wrong == 0 ? "pass " : "fail ") + name);
        anyWrong |= wrong != 0;
    }

    void exit() {
        if (anyWrong) {
            System.exit(1);
        }
    }
}
