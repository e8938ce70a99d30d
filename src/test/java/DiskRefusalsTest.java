
/** What promises 2 and 4 to 9 refuse, in its order, and that it changes nothing: step, make, mount, unmount, pack, sync, free. */
public final class DiskRefusalsTest implements Words {
    private static final int[] NO_DISKS = {-1, 4, LEAST, GREATEST};

    public static void main(String[] args) {
        stepOutside();
        stepHereNotFirst();
        stepBehindFive();
        makeOutside();
        makeMounted();
        mountOutside();
        mountMounted();
        mountWhatTheWaySays();
        mountOnNoDirectory();
        mountOnTheTop();
        mountOnAMountedRoot();
        mountOnACoveredDirectory();
        mountFirstLooksAtNoPath();
        unmountOutsideOrNotMounted();
        unmountWithOpenFile();
        unmountWithCurrentDirectory();
        unmountWithDiskMounted();
        unmountEachDisk();
        unmountTheTop();
        packOutside();
        packOntoItself();
        packOntoMounted();
        packOfOpenFile();
        packIsNotBusy();
        syncOutside();
        freeOutside();
        Due.end();
    }

    // Promise 2: "False if it is not 0..15"
    private static void stepOutside() {
        for (boolean second : new boolean[] {false, true}) {
            for (int s : new int[] {-1, 16, LEAST, GREATEST}) {
                Refusal.is(0, () -> Due.and(World.crowdedAt().get()), x -> x.step(second, s) ? 1 : 0);
                Refusal.is(0, () -> Due.and(World.crowdedAt(2).get(), 2), x -> x.step(second, s) ? 1 : 0);
            }
            for (int s = 0; s <= 15; s++) {
                Due.yes(new VirtualFiles().step(second, s));
            }
        }
    }

    // Promise 2: "0 is not the first"
    private static void stepHereNotFirst() {
        for (boolean second : new boolean[] {false, true}) {
            Refusal.is(0, () -> Due.and(World.crowdedAt(HERE).get(), HERE), x -> x.step(second, HERE) ? 1 : 0);
            Refusal.is(0, () -> Due.and(World.crowdedAt(2).get(), 3), x -> x.step(second, HERE) ? 1 : 0);
            Refusal.is(0, () -> Due.and(World.crowdedAt(2, 1, UP, 1).get(), 2, 1, UP, 2), x -> x.step(second, HERE) ? 1 : 0);
        }
        VirtualFiles x = Due.at(World.crowded(), 2);
        Due.yes(x.step(true, HERE));
        Due.no(x.step(false, HERE));
    }

    // Promise 2: "or there are 5"
    private static void stepBehindFive() {
        for (int s = -1; s <= 16; s++) {
            int further = s;
            Refusal.is(0, () -> Due.and(World.crowdedAt(2, 1, UP, 1, UP).get(), 2), x -> x.step(false, further) ? 1 : 0);
            Refusal.is(0, () -> Due.and(World.crowdedAt(2).get(), HERE, 2, 1, UP, 2), x -> x.step(true, further) ? 1 : 0);
        }
        VirtualFiles x = Due.and(Due.at(World.crowded(), 2, 1, UP, 1), 2, 1, UP, 1);
        Due.yes(x.step(false, UP));
        Due.yes(x.step(true, UP));
    }

    // Promise 4: "BAD if d or format is outside", before "BUSY if it is mounted"
    private static void makeOutside() {
        for (int d : NO_DISKS) {
            Refusal.is(BAD, World.crowdedAt(2), x -> x.make(d, LOG));
            Refusal.is(BAD, VirtualFiles::new, x -> x.make(d, NODES));
        }
        for (int format : new int[] {-1, 3, LEAST, GREATEST}) {
            Refusal.is(BAD, World.crowdedAt(2), x -> x.make(0, format));
            Refusal.is(BAD, World.crowdedAt(2), x -> x.make(1, format));
            Refusal.is(BAD, World.crowdedAt(2), x -> x.make(3, format));
        }
        for (int format = TABLE; format <= LOG; format++) {
            Due.is(OK, World.crowded().make(2, format));
            Due.is(OK, World.crowded().make(3, format));
        }
    }

    // Promise 4: "BUSY if it is mounted"
    private static void makeMounted() {
        for (int format = TABLE; format <= LOG; format++) {
            int wanted = format;
            Refusal.is(BUSY, World.crowdedAt(2), x -> x.make(0, wanted));
            Refusal.is(BUSY, World.crowdedAt(2), x -> x.make(1, wanted));
        }
        VirtualFiles x = World.crowded();
        Due.is(OK, x.unmount(1));
        Due.is(OK, x.make(1, TABLE));
        Due.is(31, x.free(1));
    }

    // Promise 5: "BAD if d is outside", before all that path A is wrong for
    private static void mountOutside() {
        for (int d : NO_DISKS) {
            Refusal.is(BAD, VirtualFiles::new, x -> x.mount(d));
            Refusal.is(BAD, World.crowdedAt(6), x -> x.mount(d));
            Refusal.is(BAD, World.crowdedAt(9), x -> x.mount(d));
            Refusal.is(BAD, World.crowdedAt(), x -> x.mount(d));
        }
    }

    // Promise 5: "BUSY if it is mounted", before what A's way says
    private static void mountMounted() {
        for (int d = 0; d <= 1; d++) {
            int mounted = d;
            Refusal.is(BUSY, World.crowdedAt(6), x -> x.mount(mounted));
            Refusal.is(BUSY, World.crowdedAt(9), x -> x.mount(mounted));
            Refusal.is(BUSY, World.crowdedAt(4), x -> x.mount(mounted));
            Refusal.is(BUSY, World.crowdedAt(3), x -> x.mount(mounted));
        }
    }

    // Promise 5: "what A's way says", and that links are followed
    private static void mountWhatTheWaySays() {
        Refusal.is(NOENT, World.crowdedAt(9), x -> x.mount(2));
        Refusal.is(NOENT, World.crowdedAt(2, 9), x -> x.mount(2));
        Refusal.is(NOENT, World.crowdedAt(2, 9, UP), x -> x.mount(2));
        Refusal.is(NOTDIR, World.crowdedAt(3, 1), x -> x.mount(2));
        Refusal.is(NOTDIR, World.crowdedAt(3, UP), x -> x.mount(2));
        Refusal.is(LOOP, World.crowdedAt(4), x -> x.mount(2));
        Refusal.is(LOOP, World.crowdedAt(4, UP), x -> x.mount(2));
        VirtualFiles x = Due.at(World.crowded(), 2, 3);
        Due.is(OK, x.mount(2));
        Due.is(2, Due.at(x, 2).about(true, 4));
    }

    // Promise 5: "NOTDIR"
    private static void mountOnNoDirectory() {
        Refusal.is(NOTDIR, World.crowdedAt(3), x -> x.mount(2));
        Refusal.is(NOTDIR, World.crowdedAt(5), x -> x.mount(2));
        Refusal.is(NOTDIR, World.crowdedAt(2, 2), x -> x.mount(2));
        Refusal.is(NOTDIR, World.crowdedAt(1, 3), x -> x.mount(2));
    }

    // Promise 5: "BUSY if it is the top"
    private static void mountOnTheTop() {
        Refusal.is(BUSY, World.crowdedAt(), x -> x.mount(2));
        Refusal.is(BUSY, World.crowdedAt(HERE), x -> x.mount(2));
        Refusal.is(BUSY, World.crowdedAt(UP), x -> x.mount(2));
        Refusal.is(BUSY, World.crowdedAt(2, UP), x -> x.mount(2));
        Refusal.is(BUSY, World.crowdedAt(1, UP), x -> x.mount(2));
    }

    // Promise 5: "or a mounted root"
    private static void mountOnAMountedRoot() {
        Refusal.is(BUSY, World.crowdedAt(1), x -> x.mount(2));
        Refusal.is(BUSY, World.crowdedAt(1, 2, UP), x -> x.mount(2));
        Refusal.is(BUSY, () -> Due.at(World.crowdedWithin(1), HERE), x -> x.mount(2));
        Refusal.is(BUSY, () -> Due.at(World.crowdedWithin(1, 2), HERE, UP), x -> x.mount(2));
    }

    /** The current directory is 2/1, on which disk 2 is mounted, and disk 3 is mounted on directory 2 above it. */
    private static VirtualFiles covered() {
        VirtualFiles x = World.crowdedWithin(2, 1);
        Due.is(OK, x.unmount(1));
        Due.is(OK, Due.at(x, HERE).mount(2));
        Due.is(OK, Due.at(x, HERE, UP).mount(3));
        return x;
    }

    // Promise 5: "or a disk is mounted on it (only HERE and UP can lead to such a directory)"
    private static void mountOnACoveredDirectory() {
        Refusal.is(BUSY, () -> Due.at(covered(), HERE), x -> x.mount(1));
        Refusal.is(BUSY, () -> Due.at(covered(), HERE, UP), x -> x.mount(1));
        VirtualFiles x = covered();
        Due.is(0, Due.at(x, HERE).about(true, 4));
        Due.is(0, Due.at(x, HERE, UP).about(true, 4));
        Due.is(2, Due.at(x, HERE, UP, 1).about(true, 4));
        Due.is(3, Due.at(x, 2).about(true, 4));
        Due.is(OK, x.unmount(2));
        Due.is(OK, Due.at(x, HERE).mount(1));
    }

    // Promise 5: "at the top, which becomes the current directory, if none is mounted; else on directory A"
    private static void mountFirstLooksAtNoPath() {
        for (int[] a : new int[][] {{}, {HERE}, {UP}, {9}, {9, 9, UP}, {HERE, 9}}) {
            for (int d = 0; d < 4; d++) {
                VirtualFiles x = Due.at(new VirtualFiles(), a);
                Due.is(OK, x.mount(d));
                Due.is(d, Due.at(x).about(true, 4));
                Due.is(d, Due.at(x, HERE).about(true, 4));
            }
        }
    }

    // Promise 6: "BAD if d is outside or not mounted"
    private static void unmountOutsideOrNotMounted() {
        for (int d : NO_DISKS) {
            Refusal.is(BAD, VirtualFiles::new, x -> x.unmount(d));
            Refusal.is(BAD, World.crowdedAt(2), x -> x.unmount(d));
        }
        for (int d = 0; d < 4; d++) {
            int notMounted = d;
            Refusal.is(BAD, VirtualFiles::new, x -> x.unmount(notMounted));
        }
        Refusal.is(BAD, World.crowdedAt(2), x -> x.unmount(2));
        Refusal.is(BAD, World.crowdedAt(2), x -> x.unmount(3));
        VirtualFiles x = World.crowded();
        Due.is(OK, x.unmount(1));
        Due.is(BAD, x.unmount(1));
    }

    /** A file on disk 2, mounted on directory 6, opened in this way. */
    private static VirtualFiles opened(int how) {
        VirtualFiles x = World.crowded();
        Due.is(OK, Due.at(x, 6).mount(2));
        Due.file(x, 5, 6, 1);
        Due.is(0, Due.at(x, 6, 1).open(how));
        return x;
    }

    private static VirtualFiles openedAndRemoved() {
        VirtualFiles x = opened(1);
        Due.is(OK, Due.at(x, 6, 1).remove());
        return x;
    }

    // Promise 6: "BUSY if a file of it is open"
    private static void unmountWithOpenFile() {
        for (int how = 0; how <= 3; how++) {
            int wanted = how;
            Refusal.is(BUSY, () -> opened(wanted), x -> x.unmount(2));
            VirtualFiles x = opened(how);
            Due.is(OK, x.unmount(1));
            Due.is(OK, x.close(0));
            Due.is(OK, x.unmount(2));
        }
        Refusal.is(BUSY, DiskRefusalsTest::openedAndRemoved, x -> x.unmount(2));
        VirtualFiles x = openedAndRemoved();
        Due.is(OK, x.close(0));
        Due.is(OK, x.unmount(2));
    }

    // Promise 6: "the current directory is on it"
    private static void unmountWithCurrentDirectory() {
        Refusal.is(BUSY, () -> World.crowdedWithin(1), x -> x.unmount(1));
        Refusal.is(BUSY, () -> World.crowdedWithin(1, 2, 1), x -> x.unmount(1));
        VirtualFiles x = World.crowdedWithin(1, 2, 1);
        Due.is(OK, Due.at(x, 1, UP).enter());
        Due.is(OK, x.unmount(1));
    }

    /** Disk 2 on directory 6 of disk 1, which is on directory 1 of disk 0. */
    private static VirtualFiles threeDisks() {
        VirtualFiles x = World.crowded();
        Due.is(OK, Due.at(x, 1, 6).mount(2));
        return x;
    }

    // Promise 6: "or a disk is mounted on one of its directories"
    private static void unmountWithDiskMounted() {
        Refusal.is(BUSY, DiskRefusalsTest::threeDisks, x -> x.unmount(1));
        VirtualFiles x = threeDisks();
        Due.is(OK, x.unmount(2));
        Due.is(OK, x.unmount(1));
        // What is mounted beside it does not keep it.
        VirtualFiles y = World.crowded();
        Due.is(OK, Due.at(y, 6).mount(2));
        Due.is(OK, y.unmount(1));
    }

    /** This disk at the top, the second on its directory 1, the third on the second's directory 1. */
    private static VirtualFiles threeDisks(int first, int second, int third) {
        VirtualFiles x = new VirtualFiles();
        Due.is(OK, x.mount(first));
        Due.is(OK, Due.at(x, 1).directory());
        Due.is(OK, Due.at(x, 1).mount(second));
        Due.is(OK, Due.at(x, 1, 1).directory());
        Due.is(OK, Due.at(x, 1, 1).mount(third));
        return x;
    }

    private static void unmountEachDisk() {
        for (int i = 0; i < 4; i++) {
            for (int j = 1; j < 4; j++) {
                for (int k = 1; k < 4; k++) {
                    if (j != k) {
                        unmountFromBelow(i, (i + j) % 4, (i + k) % 4);
                    }
                }
            }
        }
    }

    private static void unmountFromBelow(int first, int second, int third) {
        VirtualFiles x = threeDisks(first, second, third);
        Due.is(BUSY, x.unmount(first));
        Due.is(BUSY, x.unmount(second));
        Due.is(OK, x.unmount(third));
        Due.is(BUSY, x.unmount(first));
        Due.is(OK, x.unmount(second));
        Due.is(BUSY, x.unmount(first));
        Due.is(first, Due.at(x, 1).about(true, 4));
        Due.is(OK, x.mount(third));
        Due.is(third, Due.at(x, 1).about(true, 4));
        Due.is(OK, x.unmount(third));
    }

    private static VirtualFiles topAlone() {
        VirtualFiles x = World.crowded();
        Due.is(OK, x.unmount(1));
        return x;
    }

    // Promise 6: the disk at the top has the current directory on it, or a disk on one of its directories
    private static void unmountTheTop() {
        Refusal.is(BUSY, DiskRefusalsTest::topAlone, x -> x.unmount(0));
        Refusal.is(BUSY, () -> World.crowdedWithin(1), x -> x.unmount(0));
        Refusal.is(BUSY, () -> Due.mounted(TABLE), x -> x.unmount(0));
    }

    // Promise 7: "BAD if one is outside", before "BUSY if b is mounted, or a file of a is open"
    private static void packOutside() {
        for (int d : NO_DISKS) {
            Refusal.is(BAD, World::crowdedWithFiveOpen, x -> x.pack(d, 2));
            Refusal.is(BAD, World::crowdedWithFiveOpen, x -> x.pack(d, 1));
            Refusal.is(BAD, World::crowdedWithFiveOpen, x -> x.pack(0, d));
            Refusal.is(BAD, World::crowdedWithFiveOpen, x -> x.pack(3, d));
            Refusal.is(BAD, World::crowdedWithFiveOpen, x -> x.pack(d, d));
        }
    }

    // Promise 7: "or they are the same", before "BUSY"
    private static void packOntoItself() {
        for (int d = 0; d < 4; d++) {
            int same = d;
            Refusal.is(BAD, World::crowdedWithFiveOpen, x -> x.pack(same, same));
            Refusal.is(BAD, VirtualFiles::new, x -> x.pack(same, same));
        }
    }

    // Promise 7: "BUSY if b is mounted"
    private static void packOntoMounted() {
        Refusal.is(BUSY, World.crowdedAt(2), x -> x.pack(2, 0));
        Refusal.is(BUSY, World.crowdedAt(2), x -> x.pack(2, 1));
        Refusal.is(BUSY, World.crowdedAt(2), x -> x.pack(0, 1));
        Refusal.is(BUSY, World.crowdedAt(2), x -> x.pack(1, 0));
        VirtualFiles x = World.crowded();
        Due.is(OK, x.unmount(1));
        Due.is(OK, x.pack(2, 1));
        Due.is(31, x.free(1));
    }

    // Promise 7: "or a file of a is open"
    private static void packOfOpenFile() {
        for (int how = 0; how <= 3; how++) {
            int wanted = how;
            Refusal.is(BUSY, () -> opened(wanted), x -> x.pack(2, 3));
        }
        Refusal.is(BUSY, DiskRefusalsTest::openedAndRemoved, x -> x.pack(2, 3));
        VirtualFiles x = openedAndRemoved();
        Due.is(OK, x.close(0));
        Due.is(OK, x.pack(2, 3));
        Due.is(31, x.free(3));
    }

    // Promise 7: only an open file of a, and b's own mounting, keep it from being made
    private static void packIsNotBusy() {
        VirtualFiles x = opened(1);
        Due.is(OK, Due.at(x, 1, 2).enter());
        Due.is(OK, x.pack(0, 3));
        Due.is(OK, x.pack(1, 3));
    }

    // Promise 8: "BAD if d is outside"
    private static void syncOutside() {
        for (int d : NO_DISKS) {
            Refusal.is(BAD, () -> World.crowded(LOG), x -> x.sync(d));
            Refusal.is(BAD, VirtualFiles::new, x -> x.sync(d));
        }
        VirtualFiles x = World.crowded(LOG);
        Due.is(3, x.sync(0));
        Due.is(0, x.sync(0));
        for (int d = 1; d < 4; d++) {
            Due.is(0, x.sync(d));
        }
    }

    // Promise 9: "BAD if d is outside"
    private static void freeOutside() {
        for (int d : NO_DISKS) {
            Refusal.is(BAD, World.crowdedAt(2), x -> x.free(d));
            Refusal.is(BAD, VirtualFiles::new, x -> x.free(d));
        }
        VirtualFiles x = World.crowded();
        Due.is(25, x.free(0));
        Due.is(25, x.free(1));
        Due.is(31, x.free(2));
        Due.is(31, x.free(3));
    }
}
