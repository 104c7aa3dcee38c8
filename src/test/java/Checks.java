import java.util.NoSuchElementException;
import java.util.function.IntSupplier;

/** What every test by hand uses: answers compared with those that are due, and what was wrong told. */
abstract class Checks {
    /** What is tested now, as it is told with a wrong answer. */
    static String about = "";
    private static int wrong;

    static void is(int got, int want) {
        if (got != want) {
            fail("" + got, "" + want);
        }
    }

    static void is(boolean got, boolean want) {
        if (got != want) {
            fail("" + got, "" + want);
        }
    }

    static void is(String got, String want) {
        if (!got.equals(want)) {
            fail(got, want);
        }
    }

    /** A text was refused for the sign at p. */
    static void fault(int p, int got) {
        is(got, -1 - p);
    }

    static void none(IntSupplier call) {
        int got;
        try {
            got = call.getAsInt();
        } catch (NoSuchElementException e) {
            return;
        }
        fail("" + got, "NoSuchElementException");
    }

    static void fail(String got, String want) {
        wrong++;
        System.out.println(about + ", " + line() + ": " + got + ", due is " + want);
    }

    /** The line of the test itself, behind what is shared by tests. */
    private static String line() {
        for (StackTraceElement at : new Throwable().getStackTrace()) {
            if (at.getClassName().endsWith("Test")) {
                return at.getFileName() + ":" + at.getLineNumber();
            }
        }
        return "";
    }

    static void finish(String held) {
        System.out.println(wrong == 0 ? held : wrong + " answers are not as due");
        if (wrong > 0) {
            System.exit(1);
        }
    }
}
