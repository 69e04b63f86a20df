import java.util.NoSuchElementException;

/** Counts answers that are not as due, and prints them; shared by the tests. */
final class Checks {
    private static final int MOST_PRINTED = 40;

    private final String name;
    private int checked = 0;
    private int wrong = 0;

    Checks(String name) {
        this.name = name;
    }

    /** A call that may throw. */
    interface Call {
        long answer();
    }

    void due(String what, long want, long got) {
        checked++;
        if (got != want) {
            fail(what + " answered " + got + ", due is " + want);
        }
    }

    void due(String what, boolean want, boolean got) {
        due(what, want ? 1 : 0, got ? 1 : 0);
    }

    void throwsNoSuchElement(String what, Call call) {
        checked++;
        try {
            fail(what + " answered " + call.answer() + ", due is NoSuchElementException");
        } catch (NoSuchElementException e) {
            if (e.getClass() != NoSuchElementException.class) {
                fail(what + " threw " + e.getClass());
            }
        }
    }

    void hold(String what, boolean holds) {
        checked++;
        if (!holds) {
            fail(what);
        }
    }

    private void fail(String what) {
        wrong++;
        if (wrong <= MOST_PRINTED) {
            System.out.println(name + ": " + what);
        }
    }

    void end() {
        System.out.println(name + ": " + checked + " checks, " + wrong + " wrong");
        if (wrong != 0) {
            System.exit(1);
        }
    }
}
