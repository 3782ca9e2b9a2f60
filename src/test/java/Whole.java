import java.util.function.Supplier;
import java.util.function.ToLongFunction;

/** Whether a call changes anything, as far as all other calls can tell. */
final class Whole {
    private Whole() {
    }

    /** All but STATUS: the village, what may be undone, the images, the text, the fraction. The object is used up by it. */
    static String told(SteepleStruck x) {
        StringBuilder told = new StringBuilder();
        village(told, x);
        for (int i = 0; i < 2; i++) {
            told.append(" image ").append(i);
            if (x.from(i) == 1) {
                village(told, x);
            }
        }
        told.append(" read ").append(x.read()).append(' ').append(x.digest());
        return told.toString();
    }

    private static void village(StringBuilder told, SteepleStruck x) {
        told.append(' ').append(x.digest()).append(' ').append(x.then(60)).append(' ').append(x.whence());
        for (int i = 0; i < 9 && x.count(9) > 0; i++) {
            told.append(' ').append(x.undo()).append(':').append(x.digest());
        }
    }

    /** The answer, which STATUS it counts in (0, 1, 2; -1: in none), and that nothing else is changed. */
    static void refused(String what, Supplier<SteepleStruck> made, ToLongFunction<SteepleStruck> call, long answer, int which) {
        SteepleStruck x = made.get();
        SteepleStruck untouched = made.get();
        int[] before = {x.status(0), x.status(1), x.status(2)};
        Check.due(what, call.applyAsLong(x), answer);
        for (int i = 0; i < 3; i++) {
            Check.due(what + ", status " + i, x.status(i), before[i] + (i == which ? 1 : 0));
        }
        Check.holds(what + " changes nothing else", told(x).equals(told(untouched)));
    }

    /** BAD, whatever there is. */
    static void bad(String what, ToLongFunction<SteepleStruck> call) {
        bad(what, call, SteepleStruck.BAD);
    }

    static void bad(String what, ToLongFunction<SteepleStruck> call, long answer) {
        refused(what + " of none", SteepleStruck::new, call, answer, 0);
        refused(what + " of some", Made::some, call, answer, 0);
        refused(what + " of all", Made::full, call, answer, 0);
        refused(what + " of all, and to undo", Made::brim, call, answer, 0);
    }

    /** What only answers: neither STATUS nor anything else is changed. */
    static void answers(String what, Supplier<SteepleStruck> made, ToLongFunction<SteepleStruck> call, long answer) {
        refused(what, made, call, answer, -1);
    }
}
