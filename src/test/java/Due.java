import java.util.Set;

/** What all tests share: answers compared with what is due, and short ways to draft paths. */
final class Due {
    private static final Set<String> HELPERS = Set.of("Due", "Refusal", "Looks");
    private static final int MOST_TOLD = 20;
    private static int wrong = 0;
    private static int compared = 0;

    private Due() {
    }

    static void is(long want, long got) {
        compared++;
        if (want != got) {
            fail("answered " + got + ", due is " + want);
        }
    }

    static void fail(String why) {
        wrong++;
        if (wrong <= MOST_TOLD) {
            System.out.println(place() + " " + why);
        }
    }

    static void yes(boolean got) {
        is(1, got ? 1 : 0);
    }

    static void no(boolean got) {
        is(0, got ? 1 : 0);
    }

    private static String place() {
        return StackWalker.getInstance().walk(frames -> frames
                .filter(frame -> !HELPERS.contains(frame.getClassName()))
                .findFirst()
                .map(frame -> frame.getMethodName() + " (" + frame.getFileName() + ":" + frame.getLineNumber() + ")")
                .orElse("somewhere"));
    }

    /** The object with path A alone drafted. */
    static VirtualFiles at(VirtualFiles x, int... a) {
        x.wipe();
        draft(x, false, a);
        return x;
    }

    /** The object with the path B drafted beside the path A that stands. */
    static VirtualFiles and(VirtualFiles x, int... b) {
        draft(x, true, b);
        return x;
    }

    private static void draft(VirtualFiles x, boolean second, int... steps) {
        for (int s : steps) {
            if (!x.step(second, s)) {
                fail("drafts a path that cannot be");
            }
        }
    }

    /** An object whose disk 0 has this format and is mounted at the top. */
    static VirtualFiles mounted(int format) {
        VirtualFiles x = new VirtualFiles();
        is(VirtualFiles.OK, x.make(0, format));
        is(VirtualFiles.OK, x.mount(0));
        return x;
    }

    static void directories(VirtualFiles x, int... names) {
        for (int n : names) {
            is(VirtualFiles.OK, at(x, n).directory());
        }
    }

    /** Makes the file at path A, with size ints 1, 2, 3, .. written, and closes it. */
    static void file(VirtualFiles x, int size, int... a) {
        int h = at(x, a).open(1);
        yes(h >= 0);
        for (int i = 1; i <= size; i++) {
            is(VirtualFiles.OK, x.write(h, i));
        }
        is(VirtualFiles.OK, x.close(h));
    }

    static void names(VirtualFiles x, int... want) {
        for (int k = 0; k < want.length; k++) {
            is(want[k], x.name(k));
        }
        is(0, x.name(want.length));
    }

    static void end() {
        System.out.println(wrong == 0 ? compared + " answers are as due" : wrong + " answers are not as due");
        if (wrong != 0) {
            System.exit(1);
        }
    }
}
