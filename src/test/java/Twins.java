import java.util.function.Consumer;
import java.util.function.Function;
import java.util.function.IntSupplier;
import java.util.function.Supplier;
import java.util.function.ToIntFunction;

/**
 * Whether two objects are in the same state, as far as any later calls can tell. The state is hidden, so it is
 * asked for in several ways, each of which uses the object up and starts with new ones.
 */
final class Twins {
    // No room in the document is greater: a call that is still accepted then is a fault of its own.
    private static final int ENOUGH = 20;

    private Twins() {
    }

    /** The call answers the code and changes nothing, however often it is made. */
    static void refused(String what, Supplier<CourseMonitor> made, ToIntFunction<CourseMonitor> call, int code) {
        CourseMonitor m = made.get();
        for (int time = 1; time <= 3; time++) {
            Checks.due(what + ", time " + time, call.applyAsInt(m), code);
        }
        unchanged(what, made, call::applyAsInt);
    }

    static void unchanged(String what, Supplier<CourseMonitor> made, Consumer<CourseMonitor> call) {
        alike(what, () -> after(made.get(), call), made);
    }

    static void alike(String what, Supplier<CourseMonitor> one, Supplier<CourseMonitor> other) {
        tell(what + ", asked", one, other, Twins::answers);
        tell(what + ", the course", one, other, m -> untilRefused(m::undo));
        tell(what + ", the formula in use", one, other, Twins::meaning);
        tell(what + ", room for instants", one, other, m -> untilRefused(() -> m.step(5)) + untilRefused(m::undo));
        tell(what + ", room on the stack", one, other, m -> untilRefused(() -> m.fact(1)));
        tell(what + ", room for steps", one, other, m -> untilRefused(m::not));
        tell(what + ", room for nexts", one, other, m -> untilRefused(m::next));
        tell(what + ", the top", one, other, m -> m.define() + meaning(m));
        // The formulas below the top show in what they make together with it.
        tell(what + ", the stack by and", one, other, m -> untilRefused(m::and) + m.define() + meaning(m));
        tell(what + ", the stack by not and and", one, other,
            m -> m.not() + untilRefused(m::and) + m.define() + meaning(m));
        tell(what + ", the stack by or", one, other, m -> untilRefused(m::or) + m.define() + meaning(m));
        tell(what + ", the stack by until", one, other, m -> untilRefused(m::until) + m.define() + meaning(m));
    }

    private static CourseMonitor after(CourseMonitor m, Consumer<CourseMonitor> call) {
        call.accept(m);
        return m;
    }

    private static void tell(String what, Supplier<CourseMonitor> one, Supplier<CourseMonitor> other,
            Function<CourseMonitor, String> asking) {
        Checks.due(what, asking.apply(one.get()), asking.apply(other.get()));
    }

    private static String answers(CourseMonitor m) {
        StringBuilder told = new StringBuilder();
        told.append(m.depth()).append(' ').append(m.steps()).append(' ').append(m.length()).append(' ');
        told.append(m.holds()).append(' ').append(m.wouldHoldWith()).append(' ');
        told.append(m.soonest()).append(' ').append(m.soonestNot());
        for (int k = -1; k <= 11; k++) {
            told.append(' ').append(m.heldAfter(k)).append(' ').append(m.wouldHold(k));
        }
        return told.toString();
    }

    private static String untilRefused(IntSupplier call) {
        StringBuilder told = new StringBuilder();
        for (int i = 0; i < ENOUGH; i++) {
            int answer = call.getAsInt();
            told.append(answer).append(' ');
            if (answer < 0) {
                break;
            }
        }
        return told.toString();
    }

    /** What the formula in use says of every course of up to three instants, and of some longer ones. */
    private static String meaning(CourseMonitor m) {
        m.restart();
        StringBuilder told = new StringBuilder();
        told.append(m.holds()).append(' ').append(m.wouldHoldWith());
        for (int first = 0; first < 8; first++) {
            m.step(first);
            told.append(' ').append(m.wouldHoldWith());
            for (int second = 0; second < 8; second++) {
                m.step(second);
                told.append(' ').append(m.wouldHoldWith());
                m.undo();
            }
            m.undo();
        }
        for (int i = 0; i < 10; i++) {
            m.step((i * 5 + 3) % 8);
            told.append(' ').append(m.wouldHoldWith());
        }
        return told.toString();
    }
}
