import java.util.List;
import java.util.function.Supplier;
import java.util.function.ToLongFunction;

/** "What is refused changes nothing": all that can be seen after a refused call is compared with what is seen without it. */
final class Refusal {
    private Refusal() {
    }

    static void is(long error, Supplier<VirtualFiles> state, ToLongFunction<VirtualFiles> call) {
        VirtualFiles x = state.get();
        Due.is(error, call.applyAsLong(x));
        // Refused once, it is refused again.
        Due.is(error, call.applyAsLong(x));
        List<String> without = Looks.at(state);
        List<String> with = Looks.at(() -> refused(state, call));
        for (int i = 0; i < without.size() && i < with.size(); i++) {
            if (!without.get(i).equals(with.get(i))) {
                Due.fail("the refused call has changed what was " + without.get(i) + " to " + with.get(i));
                return;
            }
        }
        Due.is(without.size(), with.size());
    }

    private static VirtualFiles refused(Supplier<VirtualFiles> state, ToLongFunction<VirtualFiles> call) {
        VirtualFiles x = state.get();
        call.applyAsLong(x);
        return x;
    }
}
