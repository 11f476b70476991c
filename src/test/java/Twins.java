import java.util.function.Function;
import java.util.function.Supplier;

/** Calls that are to do nothing: of two objects made alike one gets the call, and both must read alike then. */
final class Twins {
    static final String NO_INDEX = "throws.ArrayIndexOutOfBoundsException";
    static final String NO_ARGUMENT = "throws.IllegalArgumentException";

    private final Checks checks;

    Twins(Checks checks) {
        this.checks = checks;
    }

    void noTrace(String what, Supplier<SlideBoards> made, Function<SlideBoards, Object> call, Object due) {
        SlideBoards called = made.get();
        checks.same(what, Checks.outcomeOf(() -> call.apply(called)), due);
        checks.same(what + ": what is shown behind it", Readings.of(called), Readings.of(made.get()));
    }

    /** For calls that are to do nothing on a new object, a busy one and a full one. */
    void noTraceAnywhere(String what, Function<SlideBoards, Object> call, Object due) {
        noTrace(what + " (new)", () -> new SlideBoards(3, 2), call, due);
        noTrace(what + " (busy)", Builders::busy, call, due);
        noTrace(what + " (full)", Builders::full, call, due);
    }
}
