import java.util.function.Supplier;

/** States with which several tests begin. */
final class World implements Words {
    private World() {
    }

    /**
     * Disk 0, NODES or LOG, at the top, with its ten objects: the directory 1 with disk 1 on it, a read-only copy of
     * disk 0; the directory 2 with the directory 1, the file 2 and the link 3 to directory 2 in it; the file 3 of five
     * ints; the link 4 to itself; the link 5 to file 3; the empty directory 6. So the root has six entries, and nothing
     * can be made that FULL would not refuse.
     */
    static VirtualFiles crowded(int format) {
        VirtualFiles x = Due.mounted(format);
        Due.directories(x, 1, 2, 6);
        Due.is(OK, Due.at(x, 2, 1).directory());
        Due.file(x, 0, 2, 2);
        Due.is(OK, Due.and(Due.at(x, 2, 3), 2).link());
        Due.file(x, 5, 3);
        Due.is(OK, Due.and(Due.at(x, 4), 4).link());
        Due.is(OK, Due.and(Due.at(x, 5), 3).link());
        Due.is(OK, x.pack(0, 1));
        Due.is(OK, Due.at(x, 1).mount(1));
        x.wipe();
        return x;
    }

    static VirtualFiles crowded() {
        return crowded(NODES);
    }

    static Supplier<VirtualFiles> crowdedAt(int... a) {
        return () -> Due.at(crowded(), a);
    }

    static Supplier<VirtualFiles> crowdedAt(int[] a, int... b) {
        return () -> Due.and(Due.at(crowded(), a), b);
    }

    /** The same for a TABLE disk, without its links: the files 4 and 5, and 3 in directory 2, stand in their place. */
    static VirtualFiles crowdedTable() {
        VirtualFiles x = Due.mounted(TABLE);
        Due.directories(x, 1, 2, 6);
        Due.is(OK, Due.at(x, 2, 1).directory());
        for (int n = 3; n <= 5; n++) {
            Due.file(x, 1, n);
        }
        Due.file(x, 0, 2, 2);
        Due.file(x, 0, 2, 3);
        Due.is(OK, x.pack(0, 1));
        Due.is(OK, Due.at(x, 1).mount(1));
        x.wipe();
        return x;
    }

    /** A crowded disk, and all five handles open on its file 3, to read only. */
    static VirtualFiles crowdedWithFiveOpen() {
        VirtualFiles x = Due.at(crowded(), 3);
        for (int h = 0; h < 5; h++) {
            Due.is(h, x.open(0));
        }
        x.wipe();
        return x;
    }

    /** A crowded disk whose directory at this path is the current one. */
    static VirtualFiles crowdedWithin(int... path) {
        VirtualFiles x = crowded();
        Due.is(OK, Due.at(x, path).enter());
        x.wipe();
        return x;
    }
}
