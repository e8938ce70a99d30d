import java.util.ArrayDeque;
import java.util.ArrayList;
import java.util.Arrays;
import java.util.Deque;
import java.util.List;
import java.util.function.Supplier;
import java.util.function.ToLongFunction;

/**
 * All that can be seen of a state. A look may change what it looks at, and an object may be called 512 times only, so
 * the state is made anew for each look.
 */
final class Looks implements Words {
    private static final int[] THE_TOP = {}, CURRENT = {HERE};

    private final Supplier<VirtualFiles> state;
    private final List<String> seen = new ArrayList<>();

    private Looks(Supplier<VirtualFiles> state) {
        this.state = state;
    }

    static List<String> at(Supplier<VirtualFiles> state) {
        Looks looks = new Looks(state);
        looks.lookAtDrafts();
        looks.lookAtDisks();
        looks.lookAtHandles();
        looks.lookAtTree("now", state);
        looks.lookAfterEachCall();
        return looks.seen;
    }

    private void see(String what, ToLongFunction<VirtualFiles> look) {
        seen.add(what + ": " + look.applyAsLong(state.get()));
    }

    private void lookAtDrafts() {
        seen.add("path A: " + aboutA(state.get()));
        for (int s : new int[] {HERE, 1}) {
            see("steps " + s + " that A takes", x -> stepsTaken(x, false, s));
            see("steps " + s + " that B takes", x -> stepsTaken(x, true, s));
        }
    }

    private static long stepsTaken(VirtualFiles x, boolean second, int s) {
        int count = 0;
        while (count < 9 && x.step(second, s)) {
            count++;
        }
        return count;
    }

    private static String aboutA(VirtualFiles x) {
        StringBuilder told = new StringBuilder();
        for (int what = 0; what <= 4; what++) {
            told.append(x.about(false, what)).append(' ').append(x.about(true, what)).append(' ');
        }
        for (int k = -1; k <= 6; k++) {
            told.append(x.name(k)).append(' ');
        }
        return told.toString();
    }

    private void lookAtDisks() {
        for (int i = 0; i < 4; i++) {
            int d = i;
            see("free blocks of disk " + d, x -> x.free(d));
            see("dead blocks of disk " + d, x -> x.sync(d));
            see("unmount disk " + d, x -> x.unmount(d));
            see("make disk " + d, x -> x.make(d, LOG));
            for (int e = 0; e < 4; e++) {
                int copy = e;
                see("pack disk " + d + " to " + e, x -> x.pack(d, copy));
            }
            lookAtTree("with disk " + d + " mounted too", () -> mountedSomewhere(d));
        }
    }

    /** Mounts a disk on the first directory that takes it, so that it is seen what stands on it. */
    private VirtualFiles mountedSomewhere(int d) {
        VirtualFiles x = state.get();
        for (int n = 1; n <= 14; n++) {
            if (Due.at(x, n).mount(d) == OK) {
                break;
            }
        }
        return x;
    }

    private void lookAtHandles() {
        for (int i = 0; i < 5; i++) {
            int h = i;
            seen.add("read on by handle " + h + ": " + ints(state.get(), h));
            VirtualFiles x = state.get();
            x.seek(h, 0);
            seen.add("read all by handle " + h + ": " + ints(x, h));
            see("resize by handle " + h, y -> y.resize(h, 20));
            if (state.get().write(h, 777) != BAD) {
                lookAtTree("after a write by handle " + h, () -> after(y -> y.write(h, 777)));
            }
            if (state.get().close(h) != BAD) {
                lookAtTree("after closing handle " + h, () -> after(y -> y.close(h)));
            }
        }
    }

    private static String ints(VirtualFiles x, int h) {
        long[] read = new long[21];
        for (int i = 0; i < read.length; i++) {
            read[i] = x.read(h);
        }
        return Arrays.toString(read);
    }

    private VirtualFiles after(ToLongFunction<VirtualFiles> call) {
        VirtualFiles x = state.get();
        call.applyAsLong(x);
        return x;
    }

    private void lookAtTree(String when, Supplier<VirtualFiles> made) {
        Deque<int[]> paths = new ArrayDeque<>(List.of(THE_TOP, CURRENT));
        while (!paths.isEmpty()) {
            int[] path = paths.remove();
            String where = when + ", " + Arrays.toString(path) + ": ";
            seen.add(where + aboutA(Due.at(made.get(), path)));
            int kind = Due.at(made.get(), path).about(false, 0);
            if (kind == 1) {
                seen.add(where + "prune " + Due.at(made.get(), path).prune());
                if (path.length < 5) {
                    seen.add(where + "link " + Due.at(made.get(), further(path, 13)).link());
                    addNames(paths, made.get(), path);
                }
            } else if (kind == 2) {
                seen.add(where + contents(made.get(), path));
            }
        }
        for (int d = 0; d < 4; d++) {
            seen.add(when + ", free blocks of disk " + d + ": " + made.get().free(d));
        }
    }

    private static int[] further(int[] path, int name) {
        int[] longer = Arrays.copyOf(path, path.length + 1);
        longer[path.length] = name;
        return longer;
    }

    private static void addNames(Deque<int[]> paths, VirtualFiles x, int[] path) {
        Due.at(x, path);
        for (int k = 0; k < 6 && x.name(k) > 0; k++) {
            paths.add(further(path, x.name(k)));
        }
    }

    private static String contents(VirtualFiles x, int[] path) {
        int h = Due.at(x, path).open(0);
        if (h == BUSY) {
            x.close(0);
            h = x.open(0);
        }
        return "by handle " + h + " " + ints(x, h);
    }

    /** What a next call would do with the drafts, which nothing else can tell of path B. */
    private void lookAfterEachCall() {
        lookAfter("link", x -> x.link());
        lookAfter("entry", x -> x.entry());
        lookAfter("rename", x -> x.rename());
        lookAfter("open", x -> x.open(1));
        lookAfter("enter", x -> x.enter());
    }

    private void lookAfter(String name, ToLongFunction<VirtualFiles> call) {
        long answer = call.applyAsLong(state.get());
        seen.add(name + ": " + answer);
        if (answer >= 0) {
            lookAtTree("after " + name, () -> after(call));
        }
    }
}
