import java.util.List;
import java.util.Map;
import java.util.function.Function;
import java.util.function.ToIntBiFunction;

/** Tests that a reading call changes nothing. */
final class Reading {
    private static final List<Function<PrecRewrite, Map<String, Integer>>> PARTS =
            List.of(State::declarations, State::tokens, State::result);

    private Reading() {
    }

    /** The reading call may take an argument; it is tried with many. */
    static void changesNothing(Check check, String call, ToIntBiFunction<PrecRewrite, Integer> reader) {
        for (String tokens : Scene.STRINGS) {
            for (Function<PrecRewrite, Map<String, Integer>> part : PARTS) {
                leavesAsItWas(check, tokens, false, call, reader, part);
                leavesAsItWas(check, tokens, true, call, reader, part);
            }
        }
    }

    // Beside an object of the same kind that was never read: an object read
    // before the call might already hold what the call did to it.
    private static void leavesAsItWas(Check check, String tokens, boolean parsed, String call,
            ToIntBiFunction<PrecRewrite, Integer> reader, Function<PrecRewrite, Map<String, Integer>> part) {
        Scene read = Scene.state(check, tokens, parsed);
        Scene unread = Scene.state(check, tokens, parsed);
        for (int argument = -17; argument <= 17; argument++) {
            reader.applyAsInt(read.x, argument);
        }
        reader.applyAsInt(read.x, Integer.MIN_VALUE);
        reader.applyAsInt(read.x, Integer.MAX_VALUE);
        check.same("after " + call + " " + read.name, part.apply(read.x), part.apply(unread.x));
    }
}
