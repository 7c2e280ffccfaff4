import java.util.Objects;

/** What the tests of the project compare with: every miss is printed, and finish() ends with 1. */
final class Expect {
    interface Call {
        Object answer();
    }

    private static int misses = 0;
    private static int checks = 0;

    private Expect() {
    }

    static void equal(String what, Object got, Object due) {
        checks++;
        if (!Objects.equals(got, due)) {
            misses++;
            System.out.println(what + " answered " + got + ", due is " + due);
        }
    }

    static void answers(Object due, String what, Call call) {
        equal(what, outcome(call), due);
    }

    /** The very class counts: an ArrayIndexOutOfBoundsException would be the machine's own. */
    static void throwing(Class<? extends RuntimeException> due, String what, Call call) {
        equal(what, outcome(call), thrown(due));
    }

    static void noSuch(String what, Call call) {
        throwing(IndexOutOfBoundsException.class, what, call);
    }

    static void badArgument(String what, Call call) {
        throwing(IllegalArgumentException.class, what, call);
    }

    static void badState(String what, Call call) {
        throwing(IllegalStateException.class, what, call);
    }

    /** What the call answers, or the name of what it throws. */
    static Object outcome(Call call) {
        try {
            return call.answer();
        } catch (RuntimeException e) {
            return thrown(e.getClass());
        }
    }

    static String thrown(Class<? extends RuntimeException> kind) {
        return "throws." + kind.getName();
    }

    static void finish() {
        System.out.println(checks + " checks, " + misses + " missed");
        if (misses != 0 || checks == 0) {
            System.exit(1);
        }
    }
}
