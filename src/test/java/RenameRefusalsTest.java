import java.util.function.Supplier;

/** What promise 22 refuses, in its order, and that it changes nothing: rename. */
public final class RenameRefusalsTest implements Words {
    private static final int[][] NO_PLACES = {{}, {HERE}, {UP}, {2, UP}, {9, UP}, {3, UP}, {4, UP}, {HERE, UP}};

    public static void main(String[] args) {
        nothingMounted();
        noPlaceOrNoWayForA();
        noEntryForA();
        noPlaceForB();
        noWayForB();
        acrossDisks();
        readOnly();
        diskMountedOnA();
        intoItselfOrBelow();
        ontoADirectory();
        directoryOntoNone();
        ontoMountedOrCurrent();
        ontoNotEmpty();
        intoSixEntries();
        withoutABlock();
        itselfIsNotRefused();
        Due.end();
    }

    private static int[] a(int... steps) {
        return steps;
    }

    private static void refuses(long error, Supplier<VirtualFiles> state, int[] a, int... b) {
        Refusal.is(error, () -> Due.and(Due.at(state.get(), a), b), VirtualFiles::rename);
    }

    private static void refuses(long error, int[] a, int... b) {
        refuses(error, World::crowded, a, b);
    }

    // "BAD", as for remove: "if nothing is mounted"
    private static void nothingMounted() {
        for (int[] a : new int[][] {{}, {HERE}, {UP}, {1}, {1, 1}}) {
            refuses(BAD, VirtualFiles::new, a, 2);
            refuses(BAD, VirtualFiles::new, a);
        }
    }

    // "INVALID, what the way says, NOTDIR .. for A likewise", before what is wrong with B
    private static void noPlaceOrNoWayForA() {
        for (int[] b : new int[][] {{9}, {}, {9, 9}, {3, 9}, {1, 9}}) {
            for (int[] a : NO_PLACES) {
                refuses(INVALID, a, b);
            }
            refuses(NOENT, a(9, 1), b);
            refuses(NOENT, a(1, 9, 1), b);
            refuses(NOTDIR, a(3, 9, 1), b);
            refuses(NOTDIR, a(3, UP, 1), b);
            refuses(LOOP, a(4, 1), b);
            refuses(NOTDIR, a(3, 1), b);
            refuses(NOTDIR, a(5, 1), b);
        }
    }

    // "NOENT for A", before what is wrong with B
    private static void noEntryForA() {
        for (int[] b : new int[][] {{9}, {}, {HERE}, {UP}, {9, 9}, {3, 9}, {4, 9}, {1, 9}}) {
            refuses(NOENT, a(9), b);
            refuses(NOENT, a(6, 1), b);
            refuses(NOENT, a(1, 9), b);
        }
    }

    // "INVALID for B", before the way to it
    private static void noPlaceForB() {
        for (int[] b : NO_PLACES) {
            refuses(INVALID, a(3), b);
            refuses(INVALID, a(1), b);
            refuses(INVALID, a(1, 3), b);
        }
    }

    // "what the way to its directory says, NOTDIR", before CROSS, READONLY, BUSY
    private static void noWayForB() {
        for (int[] a : new int[][] {{1}, {2}, {3}, {1, 3}}) {
            refuses(NOENT, a, 9, 1);
            refuses(NOENT, a, 1, 9, 1);
            refuses(NOTDIR, a, 3, 9, 1);
            refuses(NOTDIR, a, 5, UP, 1);
            refuses(LOOP, a, 4, 1);
            refuses(NOTDIR, a, 3, 1);
            refuses(NOTDIR, a, 5, 1);
            refuses(NOTDIR, a, 1, 3, 1);
        }
    }

    // "CROSS if that is on another disk", before READONLY, BUSY, and what stands at B
    private static void acrossDisks() {
        refuses(CROSS, a(3), 1, 9);
        refuses(CROSS, a(3), 1, 3);
        refuses(CROSS, a(3), 1, 2);
        refuses(CROSS, a(2), 1, 3);
        refuses(CROSS, a(1), 1, 9);
        refuses(CROSS, a(1, 3), 9);
        refuses(CROSS, a(1, 2), 2);
        refuses(CROSS, a(1, 2), 3);
        refuses(CROSS, a(1, 3), 6, 1);
    }

    /** The copy on directory 1 has disk 2 mounted on its directory 6. */
    private static VirtualFiles mountedOnCopy() {
        VirtualFiles x = World.crowded();
        Due.is(OK, Due.at(x, 1, 6).mount(2));
        return x;
    }

    // "READONLY", before BUSY, INVALID, and what stands at B
    private static void readOnly() {
        refuses(READONLY, a(1, 3), 1, 9);
        refuses(READONLY, a(1, 3), 1, 3);
        refuses(READONLY, a(1, 3), 1, 2);
        refuses(READONLY, a(1, 2), 1, 3);
        refuses(READONLY, a(1, 6), 1, 2);
        refuses(READONLY, a(1, 2), 1, 2, 9);
        refuses(READONLY, a(1, 2, 2), 1, 9);
        refuses(READONLY, RenameRefusalsTest::mountedOnCopy, a(1, 6), 1, 9);
        refuses(READONLY, RenameRefusalsTest::mountedOnCopy, a(1, 2), 1, 2, 1, 9);
    }

    /** The current directory is 2, and disk 2 is mounted on it. */
    private static VirtualFiles withinCovered() {
        VirtualFiles x = World.crowdedWithin(2);
        Due.is(OK, Due.at(x, HERE).mount(2));
        return x;
    }

    // "BUSY if the object of A is a directory on which a disk is mounted", before INVALID and what stands at B
    private static void diskMountedOnA() {
        refuses(BUSY, a(1), 9);
        refuses(BUSY, a(1), 1);
        refuses(BUSY, a(1), 2);
        refuses(BUSY, a(1), 3);
        refuses(BUSY, a(1), 6, 1);
        refuses(BUSY, RenameRefusalsTest::withinCovered, a(2), HERE, 9);
        refuses(BUSY, RenameRefusalsTest::withinCovered, a(2), HERE, 1, 9);
    }

    // "INVALID if it is a directory, and B's directory is it or below it", before what stands at B
    private static void intoItselfOrBelow() {
        refuses(INVALID, a(2), 2, 9);
        refuses(INVALID, a(2), 2, 1);
        refuses(INVALID, a(2), 2, 2);
        refuses(INVALID, a(2), 2, 1, 9);
        refuses(INVALID, a(2), 2, 3, 9);
        refuses(INVALID, () -> World.crowdedWithin(2, 1), a(2), HERE, 9);
        refuses(INVALID, () -> World.crowdedWithin(2, 1), a(2), HERE, UP, 1);
        refuses(INVALID, a(6), 6, 6);
        refuses(INVALID, a(2, 1), 2, 1, 9);
    }

    // "ISDIR if B's is", before BUSY and NOTEMPTY
    private static void ontoADirectory() {
        for (int[] a : new int[][] {{3}, {4}, {5}, {2, 2}, {2, 3}}) {
            refuses(ISDIR, a, 1);
            refuses(ISDIR, a, 2);
            refuses(ISDIR, a, 6);
            refuses(ISDIR, () -> World.crowdedWithin(6), a, 6);
            refuses(ISDIR, () -> World.crowdedWithin(2), a, 2);
        }
    }

    // "else NOTDIR"
    private static void directoryOntoNone() {
        for (int[] a : new int[][] {{2}, {6}, {2, 1}}) {
            refuses(NOTDIR, a, 3);
            refuses(NOTDIR, a, 4);
            refuses(NOTDIR, a, 5);
        }
        refuses(NOTDIR, a(6), 2, 3);
    }

    /** The directory 2, which is not empty, with disk 2 on it. */
    private static VirtualFiles mountedOnNotEmpty() {
        VirtualFiles x = World.crowded();
        Due.is(OK, Due.at(x, 2).mount(2));
        return x;
    }

    // "BUSY if a disk is mounted on B's or it is the current directory", before NOTEMPTY
    private static void ontoMountedOrCurrent() {
        refuses(BUSY, a(6), 1);
        refuses(BUSY, a(2, 1), 1);
        refuses(BUSY, RenameRefusalsTest::mountedOnNotEmpty, a(6), 2);
        refuses(BUSY, () -> World.crowdedWithin(6), a(2), 6);
        refuses(BUSY, () -> World.crowdedWithin(2), a(6), 2);
        refuses(BUSY, () -> World.crowdedWithin(2), a(2, 1), 2);
    }

    // "NOTEMPTY"
    private static void ontoNotEmpty() {
        refuses(NOTEMPTY, a(6), 2);
        refuses(NOTEMPTY, a(2, 1), 2);
        VirtualFiles y = World.crowded();
        Due.is(OK, Due.at(y, 2, 1).prune());
        Due.is(OK, Due.at(y, 2, 2).remove());
        Due.is(NOTEMPTY, Due.and(Due.at(y, 6), 2).rename());
        Due.is(OK, Due.at(y, 2, 3).remove());
        Due.is(OK, Due.and(Due.at(y, 6), 2).rename());
        VirtualFiles x = World.crowded();
        Due.is(OK, Due.and(Due.at(x, 2), 6).rename());
        Due.names(Due.at(x, 6), 1, 2, 3);
        Due.names(Due.at(x), 1, 3, 4, 5, 6);
    }

    // "FULL if B's directory has 6 entries, A's not in it"
    private static void intoSixEntries() {
        refuses(FULL, a(2, 1), 9);
        refuses(FULL, a(2, 2), HERE, 14);
        refuses(FULL, a(2, 3), 6, UP, 7);
        refuses(FULL, World::crowdedTable, a(2, 1), 7);
        for (int n = 2; n <= 6; n++) {
            VirtualFiles x = World.crowded();
            Due.is(OK, Due.and(Due.at(x, n), 14).rename());
            Due.is(6, Due.at(x).about(true, 1));
        }
    }

    /** A TABLE disk without a free block, the directory 1 with four files in it, and three more at the top. */
    static VirtualFiles withoutBlocks() {
        VirtualFiles x = Due.mounted(TABLE);
        Due.directories(x, 1);
        int[][] files = {{1, 1}, {1, 2}, {1, 3}, {1, 4}, {2}, {3}, {4}};
        for (int[] path : files) {
            int h = Due.at(x, path).open(1);
            Due.is(OK, x.resize(h, x.free(0) > 5 ? 20 : 4 * x.free(0)));
            Due.is(OK, x.close(h));
        }
        Due.is(0, x.free(0));
        return x;
    }

    /** Likewise, but the fifth entry at the top has taken the last block. */
    private static VirtualFiles withAFifthAtTheTop() {
        VirtualFiles x = withoutBlocks();
        Due.is(OK, Due.at(x, 4).remove());
        int h = Due.at(x, 3).open(1);
        Due.is(OK, x.resize(h, 4 * x.free(0) + 4 * x.about(true, 3) - 4));
        Due.is(OK, x.close(h));
        Due.file(x, 0, 4);
        Due.file(x, 0, 5);
        Due.is(0, x.free(0));
        return x;
    }

    // "or needs a block that is not free (A's entry counts as gone)"
    private static void withoutABlock() {
        refuses(FULL, RenameRefusalsTest::withoutBlocks, a(2), 1, 5);
        refuses(FULL, RenameRefusalsTest::withoutBlocks, a(4), 1, 14);
        refuses(FULL, RenameRefusalsTest::withoutBlocks, a(1, 1), 5);
        VirtualFiles x = withoutBlocks();
        Due.is(OK, Due.and(Due.at(x, 1, 1), 1, 5).rename());
        Due.is(0, x.free(0));
        // In the place of another entry none is needed.
        Due.is(OK, Due.and(Due.at(x, 4), 1, 5).rename());
        Due.is(5, x.free(0));
        VirtualFiles y = withAFifthAtTheTop();
        Due.is(OK, Due.and(Due.at(y, 5), 1, 5).rename());
        Due.is(0, y.free(0));
        Due.is(1, Due.at(y).about(true, 3));
        Due.is(2, Due.at(y, 1).about(true, 3));
    }

    // "if it is that of A itself, or of the same object, only (if it is that of A itself) the name changes to B's"
    private static void itselfIsNotRefused() {
        VirtualFiles x = World.crowdedTable();
        for (int n = 2; n <= 6; n++) {
            Due.is(OK, Due.and(Due.at(x, n), n + 7).rename());
            Due.is(OK, Due.and(Due.at(x, n), n + 7).rename());
        }
        Due.names(Due.at(x), 1, 9, 10, 11, 12, 13);
        VirtualFiles y = World.crowded();
        Due.is(OK, Due.at(y, 5).remove());
        Due.is(OK, Due.and(Due.at(y, 5), 3).entry());
        Due.is(OK, Due.and(Due.at(y, 3), 5).rename());
        Due.is(OK, Due.and(Due.at(y, 5), 3).rename());
        Due.names(Due.at(y), 1, 2, 3, 4, 5, 6);
        Due.is(2, Due.at(y, 3).about(true, 2));
        Due.is(OK, Due.and(Due.at(y, 2), 2).rename());
        Due.names(Due.at(y), 1, 2, 3, 4, 5, 6);
        Due.names(Due.at(y, 2), 1, 2, 3);
    }
}
