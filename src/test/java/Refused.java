import java.util.Map;
import java.util.function.Function;
import java.util.function.Supplier;

/**
 * A refused call must throw the very exception that is due, and all the other methods must answer
 * as if it had never been made. So must they behind a call that promises to change nothing.
 * Each question has a ladder of its own, for a ladder is promised for 512 calls alone.
 */
final class Refused {
    private Refused() {
    }

    static void noSuch(String what, Supplier<OddsLadder> build, Function<OddsLadder, Object> call) {
        call(IndexOutOfBoundsException.class, what, build, call);
    }

    static void badArgument(String what, Supplier<OddsLadder> build,
            Function<OddsLadder, Object> call) {
        call(IllegalArgumentException.class, what, build, call);
    }

    static void badState(String what, Supplier<OddsLadder> build,
            Function<OddsLadder, Object> call) {
        call(IllegalStateException.class, what, build, call);
    }

    private static void call(Class<? extends RuntimeException> due, String what,
            Supplier<OddsLadder> build, Function<OddsLadder, Object> call) {
        OddsLadder x = build.get();
        Expect.throwing(due, what, () -> call.apply(x));
        Expect.throwing(due, what + ", once more", () -> call.apply(x));
        changesNothing(what, build, call);
    }

    static void changesNothing(String what, Supplier<OddsLadder> build,
            Function<OddsLadder, Object> call) {
        for (Map.Entry<String, Function<OddsLadder, Object>> question : Asked.QUESTIONS.entrySet()) {
            OddsLadder x = build.get();
            Object before = question.getValue().apply(x);
            Expect.outcome(() -> call.apply(x));
            Expect.equal(what + ", then " + question.getKey(), question.getValue().apply(x), before);
        }
        for (Map.Entry<String, Function<OddsLadder, Object>> change : Asked.CHANGES.entrySet()) {
            OddsLadder x = build.get();
            OddsLadder twin = build.get();
            Expect.outcome(() -> call.apply(x));
            String then = what + ", then " + change.getKey();
            Expect.answers(Expect.outcome(() -> change.getValue().apply(twin)), then,
                () -> change.getValue().apply(x));
            Expect.equal(then + ", then digest", x.digest(), twin.digest());
        }
    }
}
