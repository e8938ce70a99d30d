/** Promises 1 and 4 to 9: a new object, make, mount, unmount, pack, sync, free. */
public final class DisksTest {
    private static final int TABLE = 0, NODES = 1, LOG = 2, HERE = 0, UP = 15;

    public static void main(String[] args) {
        newObjectHasNothingMounted();
        newObjectHasFourEmptyTables();
        newObjectHasNoOpenFileAndEmptyDrafts();
        makeEmptiesAndFormats();
        makeLeavesNothingBehind();
        makeRefuses();
        mountAtTheTop();
        mountOnADirectory();
        mountRefuses();
        mountOnCoveredDirectories();
        unmount();
        unmountRefuses();
        packCopies();
        packKeepsHolesAndShares();
        packOfAnEmptyDisk();
        packRefuses();
        packedDisksRefuse();
        packedDisksAreRead();
        sync();
        deadBlocksStayWithTheirDisk();
        free();
        Due.end();
    }

    // Promise 1: "none is mounted"
    private static void newObjectHasNothingMounted() {
        VirtualFiles x = Due.and(Due.at(new VirtualFiles(), 1), 2);
        Due.is(VirtualFiles.BAD, x.enter());
        Due.is(VirtualFiles.BAD, x.directory());
        Due.is(VirtualFiles.BAD, x.link());
        Due.is(VirtualFiles.BAD, x.entry());
        Due.is(VirtualFiles.BAD, x.remove());
        Due.is(VirtualFiles.BAD, x.prune());
        Due.is(VirtualFiles.BAD, x.rename());
        for (int how = 0; how <= 3; how++) {
            Due.is(VirtualFiles.BAD, x.open(how));
        }
        for (int what = 0; what <= 4; what++) {
            Due.is(VirtualFiles.BAD, x.about(false, what));
            Due.is(VirtualFiles.BAD, x.about(true, what));
        }
        Due.is(VirtualFiles.BAD, x.name(0));
        for (int d = 0; d < 4; d++) {
            Due.is(VirtualFiles.BAD, x.unmount(d));
        }
        x.wipe();
        Due.is(VirtualFiles.BAD, x.directory());
        Due.is(VirtualFiles.BAD, x.remove());
        Due.is(VirtualFiles.BAD, x.rename());
    }

    // Promise 1: "All disks are TABLE, not read-only, with an empty root"
    private static void newObjectHasFourEmptyTables() {
        for (int d = 0; d < 4; d++) {
            VirtualFiles x = new VirtualFiles();
            Due.is(31, x.free(d));
            Due.is(0, x.sync(d));
            Due.is(VirtualFiles.OK, x.mount(d));
            Due.is(d, x.about(true, 4));
            Due.names(x);
            Due.is(VirtualFiles.UNSUPPORTED, Due.and(Due.at(x, 1), 2).link());
            Due.is(VirtualFiles.OK, Due.at(x, 1).directory());
            Due.is(VirtualFiles.EXISTS, Due.at(x, 8).directory());
        }
    }

    // Promise 1: "no file is open, both drafts are empty"
    private static void newObjectHasNoOpenFileAndEmptyDrafts() {
        VirtualFiles x = new VirtualFiles();
        for (int h = 0; h < 5; h++) {
            Due.is(VirtualFiles.BAD, x.close(h));
            Due.is(VirtualFiles.BAD, x.seek(h, 0));
            Due.is(VirtualFiles.BAD, x.read(h));
            Due.is(VirtualFiles.BAD, x.write(h, 0));
            Due.is(VirtualFiles.BAD, x.resize(h, 0));
        }
        Due.is(VirtualFiles.OK, x.make(0, NODES));
        Due.is(VirtualFiles.OK, x.mount(0));
        Due.is(VirtualFiles.INVALID, x.directory());
        Due.yes(x.step(false, 1));
        Due.is(VirtualFiles.OK, x.link());
        Due.is(0, x.about(false, 1));
    }

    // Promise 4: "Disk d becomes empty, of this format, not read-only."
    private static void makeEmptiesAndFormats() {
        VirtualFiles x = Due.mounted(TABLE);
        Due.directories(x, 1, 2);
        Due.is(VirtualFiles.OK, Due.at(x, 1).mount(1));
        Due.file(x, 9, 1, 3);
        Due.is(28, x.free(1));
        Due.is(VirtualFiles.OK, x.unmount(1));
        Due.is(VirtualFiles.OK, x.make(1, LOG));
        Due.is(31, x.free(1));
        Due.is(VirtualFiles.OK, Due.at(x, 1).mount(1));
        Due.names(x);
        Due.file(x, 3, 1, 3);
        Due.is(28, x.free(1));
        Due.is(VirtualFiles.OK, x.unmount(1));
        Due.is(VirtualFiles.OK, x.make(1, NODES));
        Due.is(0, x.sync(1));
        Due.is(VirtualFiles.OK, x.pack(0, 1));
        Due.is(VirtualFiles.OK, x.make(1, NODES));
        Due.is(VirtualFiles.OK, Due.at(x, 1).mount(1));
        Due.is(VirtualFiles.OK, Due.and(Due.at(x, 1, 1), 7).link());
        Due.is(VirtualFiles.OK, Due.at(x, 1, 8).directory());
    }

    /** Fills disk 1, which is mounted on directory 1, with ten objects of all kinds that its format has. */
    private static void fillDiskOne(VirtualFiles x, int format) {
        for (int n = 1; n <= 3; n++) {
            Due.is(VirtualFiles.OK, Due.at(x, 1, n).directory());
            Due.is(VirtualFiles.OK, Due.at(x, 1, n, 1).directory());
            Due.file(x, 3, 1, n, 2);
        }
        if (format == NODES) {
            Due.is(VirtualFiles.OK, Due.and(Due.at(x, 1, 4), 1, 1, 2).entry());
        }
    }

    private static void makeLeavesNothingBehind() {
        for (int before = TABLE; before <= LOG; before++) {
            for (int after = TABLE; after <= LOG; after++) {
                VirtualFiles x = Due.mounted(NODES);
                Due.directories(x, 1);
                Due.is(VirtualFiles.OK, x.make(1, before));
                Due.is(VirtualFiles.OK, Due.at(x, 1).mount(1));
                fillDiskOne(x, before);
                Due.is(VirtualFiles.OK, x.unmount(1));
                Due.is(VirtualFiles.OK, x.make(1, after));
                Due.is(31, x.free(1));
                Due.is(0, x.sync(1));
                Due.is(VirtualFiles.OK, Due.at(x, 1).mount(1));
                Due.names(x);
                fillDiskOne(x, after);
                for (int n = 1; n <= 3; n++) {
                    Due.names(Due.at(x, 1, n), 1, 2);
                    Due.is(1, x.about(true, 2));
                    Due.names(Due.at(x, 1, n, 1));
                    Due.is(1, x.about(true, 2));
                    Due.is(3, Due.at(x, 1, n, 2).about(true, 1));
                    Due.is(n == 1 && after == NODES ? 2 : 1, x.about(true, 2));
                    Due.is(1, x.about(true, 3));
                }
                Due.is(22 - (after == LOG ? 6 : 0), x.free(1));
            }
        }
    }

    private static void makeRefuses() {
        VirtualFiles x = new VirtualFiles();
        Due.is(VirtualFiles.BAD, x.make(-1, 0));
        Due.is(VirtualFiles.BAD, x.make(4, 0));
        Due.is(VirtualFiles.BAD, x.make(0, -1));
        Due.is(VirtualFiles.BAD, x.make(0, 3));
        Due.is(VirtualFiles.BAD, x.make(Integer.MAX_VALUE, Integer.MIN_VALUE));
        Due.is(VirtualFiles.OK, x.mount(0));
        Due.directories(x, 1);
        Due.is(VirtualFiles.BAD, x.make(0, 3));
        Due.is(VirtualFiles.BUSY, x.make(0, 1));
        Due.is(30, x.free(0));
        Due.is(VirtualFiles.OK, Due.at(x, 1).mount(3));
        Due.is(VirtualFiles.BUSY, x.make(3, 1));
        Due.is(VirtualFiles.OK, x.make(2, 2));
    }

    private static void mountAtTheTop() {
        VirtualFiles x = Due.at(new VirtualFiles(), 5, 6);
        Due.is(VirtualFiles.BAD, x.mount(-1));
        Due.is(VirtualFiles.BAD, x.mount(4));
        Due.is(VirtualFiles.OK, x.mount(2));
        Due.is(VirtualFiles.NOENT, x.about(true, 4));
        Due.is(2, Due.at(x).about(true, 4));
        Due.is(2, Due.at(x, HERE).about(true, 4));
        Due.is(2, Due.at(x, UP).about(true, 4));
        Due.is(0, x.about(true, 2));
    }

    // Promise 5: "else on directory A (links followed)"
    private static void mountOnADirectory() {
        VirtualFiles x = Due.mounted(NODES);
        Due.directories(x, 1);
        Due.is(VirtualFiles.OK, Due.at(x, 1, 2).directory());
        Due.is(VirtualFiles.OK, Due.and(Due.at(x, 3), 1).link());
        Due.is(VirtualFiles.OK, Due.at(x, 3).mount(3));
        Due.is(3, Due.at(x, 1).about(true, 4));
        Due.names(x);
        Due.is(VirtualFiles.NOENT, Due.at(x, 1, 2).about(true, 0));
        Due.is(VirtualFiles.OK, Due.at(x, 3, 4).directory());
        Due.is(VirtualFiles.OK, Due.at(x, 1, 4).mount(1));
        Due.is(1, Due.at(x, 1, 11).about(true, 4));
        Due.is(3, Due.at(x, 1, 4, UP).about(true, 4));
        Due.is(0, Due.at(x, 1, 4, UP, UP).about(true, 4));
        Due.is(2, x.about(true, 1));
        Due.is(0, Due.at(x, HERE).about(true, 4));
    }

    private static void mountRefuses() {
        VirtualFiles x = Due.mounted(NODES);
        Due.directories(x, 1);
        Due.file(x, 1, 2);
        Due.is(VirtualFiles.OK, Due.and(Due.at(x, 3), 3).link());
        Due.is(VirtualFiles.BAD, Due.at(x, 1).mount(4));
        Due.is(VirtualFiles.BAD, x.mount(-1));
        Due.is(VirtualFiles.BUSY, Due.at(x, 9).mount(0));
        Due.is(VirtualFiles.NOENT, Due.at(x, 9).mount(1));
        Due.is(VirtualFiles.NOTDIR, Due.at(x, 2, 1).mount(1));
        Due.is(VirtualFiles.LOOP, Due.at(x, 3).mount(1));
        Due.is(VirtualFiles.NOTDIR, Due.at(x, 2).mount(1));
        Due.is(VirtualFiles.BUSY, Due.at(x).mount(1));
        Due.is(VirtualFiles.BUSY, Due.at(x, HERE).mount(1));
        Due.is(VirtualFiles.BUSY, Due.at(x, 1, UP).mount(1));
        Due.is(VirtualFiles.OK, Due.at(x, 1).mount(1));
        Due.is(VirtualFiles.BUSY, Due.at(x, 1).mount(2));
        Due.is(VirtualFiles.BUSY, x.mount(1));
    }

    private static void mountOnCoveredDirectories() {
        VirtualFiles x = Due.mounted(NODES);
        Due.directories(x, 1);
        Due.is(VirtualFiles.OK, Due.at(x, 1, 2).directory());
        Due.is(VirtualFiles.OK, Due.at(x, 1, 2).enter());
        Due.is(VirtualFiles.OK, Due.at(x, HERE).mount(1));
        Due.is(VirtualFiles.BUSY, x.mount(2));
        Due.is(0, x.about(true, 4));
        Due.is(1, Due.at(x, 1, 2).about(true, 4));
        Due.is(VirtualFiles.OK, Due.at(x, HERE, UP).mount(2));
        Due.is(VirtualFiles.BUSY, Due.at(x, HERE, UP).mount(3));
        Due.is(2, Due.at(x, 1).about(true, 4));
        Due.is(0, Due.at(x, HERE, UP).about(true, 4));
        Due.is(1, Due.at(x, HERE, UP, 2).about(true, 4));
        Due.is(VirtualFiles.NOENT, Due.at(x, 1, 2).about(true, 4));
        Due.is(1, Due.at(x, HERE, UP, UP).about(true, 1));
        Due.is(0, x.about(true, 2));
        Due.is(VirtualFiles.OK, Due.at(x, HERE, 5).directory());
        Due.is(28, x.free(0));
    }

    // Promise 6: "Ends the mounting of disk d."
    private static void unmount() {
        VirtualFiles x = Due.mounted(TABLE);
        Due.directories(x, 1);
        Due.is(VirtualFiles.OK, Due.at(x, 1, 2).directory());
        Due.is(VirtualFiles.OK, Due.at(x, 1).mount(1));
        Due.file(x, 2, 1, 3);
        Due.is(VirtualFiles.OK, x.unmount(1));
        Due.names(Due.at(x, 1), 2);
        Due.is(VirtualFiles.BAD, x.unmount(1));
        Due.is(VirtualFiles.OK, Due.at(x, 1, 2).mount(1));
        Due.names(x, 3);
        Due.is(2, Due.at(x, 1, 2, 3).about(true, 1));
    }

    private static void unmountRefuses() {
        VirtualFiles x = Due.mounted(TABLE);
        Due.directories(x, 1);
        Due.is(VirtualFiles.BAD, x.unmount(-1));
        Due.is(VirtualFiles.BAD, x.unmount(4));
        Due.is(VirtualFiles.BAD, x.unmount(1));
        Due.is(VirtualFiles.BUSY, x.unmount(0));
        Due.is(VirtualFiles.OK, Due.at(x, 1).mount(1));
        Due.is(VirtualFiles.OK, Due.at(x, 1, 2).directory());
        Due.is(0, Due.at(x, 1, 3).open(1));
        Due.is(VirtualFiles.BUSY, x.unmount(1));
        Due.is(VirtualFiles.OK, Due.at(x, 1, 3).remove());
        Due.is(VirtualFiles.BUSY, x.unmount(1));
        Due.is(VirtualFiles.OK, x.close(0));
        Due.is(VirtualFiles.OK, Due.at(x, 1, 2).enter());
        Due.is(VirtualFiles.BUSY, x.unmount(1));
        Due.is(VirtualFiles.OK, Due.at(x, 1, 2).mount(2));
        Due.is(VirtualFiles.OK, Due.at(x, 1, 2).enter());
        Due.is(VirtualFiles.BUSY, x.unmount(2));
        Due.is(VirtualFiles.BUSY, x.unmount(1));
        Due.is(VirtualFiles.BUSY, x.unmount(0));
        Due.is(VirtualFiles.OK, Due.at(x).enter());
        Due.is(VirtualFiles.BUSY, x.unmount(1));
        Due.is(VirtualFiles.OK, x.unmount(2));
        Due.is(VirtualFiles.OK, x.unmount(1));
        Due.is(VirtualFiles.BUSY, x.unmount(0));
    }

    // Promise 7: "Makes disk b a read-only copy of disk a, of its format, without dead blocks."
    private static void packCopies() {
        VirtualFiles x = Due.mounted(LOG);
        Due.directories(x, 1, 2);
        Due.is(VirtualFiles.OK, Due.at(x, 1, 3).directory());
        Due.file(x, 6, 1, 3, 4);
        Due.is(VirtualFiles.OK, Due.and(Due.at(x, 1, 5), HERE, 3, 4).link());
        Due.is(22, x.free(0));
        Due.is(VirtualFiles.OK, x.pack(0, 1));
        Due.is(26, x.free(1));
        Due.is(22, x.free(0));
        Due.is(0, x.sync(1));
        Due.is(4, x.sync(0));
        Due.is(VirtualFiles.OK, Due.at(x, 2).mount(1));
        Due.names(x, 1, 2);
        Due.names(Due.at(x, 2, 1), 3, 5);
        Due.is(1, Due.at(x, 2, 1, 5).about(true, 4));
        Due.is(6, x.about(true, 1));
        Due.is(2, x.about(true, 3));
        Due.is(3, x.about(false, 1));
        Due.is(1, Due.at(x, 2, 1, 3, UP, 5).about(true, 4));
        // The copy does not change with what it was made of, nor take over its mounting.
        Due.is(VirtualFiles.OK, Due.at(x, 1, 3, 4).remove());
        Due.is(0, Due.at(x, 2, 1, 3, 4).open(0));
        for (int i = 1; i <= 6; i++) {
            Due.is(i, x.read(0));
        }
        Due.is(1, Due.at(x, 2, 2).about(true, 4));
        Due.is(VirtualFiles.NOENT, Due.at(x, 1, 5).about(true, 0));
    }

    private static void packKeepsHolesAndShares() {
        VirtualFiles x = Due.mounted(NODES);
        Due.is(0, Due.at(x, 1).open(1));
        Due.is(VirtualFiles.OK, x.seek(0, 13));
        Due.is(VirtualFiles.OK, x.write(0, 8));
        Due.is(VirtualFiles.OK, x.close(0));
        Due.is(VirtualFiles.OK, Due.and(Due.at(x, 2), 1).entry());
        Due.directories(x, 3);
        Due.is(VirtualFiles.OK, x.make(2, LOG));
        Due.is(VirtualFiles.OK, x.pack(0, 2));
        Due.is(29, x.free(2));
        Due.is(VirtualFiles.OK, Due.at(x, 3).mount(2));
        Due.is(2, Due.at(x, 3, 2).about(true, 2));
        Due.is(14, x.about(true, 1));
        Due.is(1, x.about(true, 3));
        Due.names(Due.at(x, 3), 1, 2, 3);
        // A copy of a copy.
        Due.is(VirtualFiles.OK, x.pack(2, 3));
        Due.is(29, x.free(3));
        // A copy in the place of what the disk had, dead blocks too.
        Due.is(VirtualFiles.OK, x.pack(1, 3));
        Due.is(31, x.free(3));
        Due.is(VirtualFiles.OK, x.unmount(2));
        Due.is(VirtualFiles.OK, x.make(2, LOG));
        Due.is(VirtualFiles.OK, Due.at(x, 3).mount(2));
        Due.file(x, 4, 3, 5);
        Due.is(VirtualFiles.OK, x.unmount(2));
        Due.is(27, x.free(2));
        Due.is(VirtualFiles.OK, x.pack(1, 2));
        Due.is(31, x.free(2));
        Due.is(0, x.sync(2));
    }

    private static void packOfAnEmptyDisk() {
        for (int format = TABLE; format <= LOG; format++) {
            VirtualFiles x = Due.mounted(TABLE);
            Due.directories(x, 1);
            Due.is(VirtualFiles.OK, x.make(2, format));
            Due.is(VirtualFiles.OK, x.pack(2, 3));
            Due.is(31, x.free(3));
            Due.is(VirtualFiles.OK, Due.at(x, 1).mount(3));
            Due.names(x);
            Due.is(VirtualFiles.READONLY, Due.at(x, 1, 1).directory());
            Due.is(VirtualFiles.READONLY, Due.at(x, 1, 1).link());
            Due.is(VirtualFiles.READONLY, Due.at(x, 1, 1).open(1));
            // What it is a copy of may be written.
            Due.is(VirtualFiles.OK, x.unmount(3));
            Due.is(VirtualFiles.OK, Due.at(x, 1).mount(2));
            Due.is(VirtualFiles.OK, Due.at(x, 1, 1).directory());
            Due.is(31, x.free(3));
        }
    }

    private static void packRefuses() {
        VirtualFiles x = Due.mounted(NODES);
        Due.directories(x, 1);
        Due.is(VirtualFiles.BAD, x.pack(-1, 1));
        Due.is(VirtualFiles.BAD, x.pack(4, 1));
        Due.is(VirtualFiles.BAD, x.pack(0, -1));
        Due.is(VirtualFiles.BAD, x.pack(0, 4));
        Due.is(VirtualFiles.BAD, x.pack(0, 0));
        Due.is(VirtualFiles.BAD, x.pack(1, 1));
        Due.is(VirtualFiles.BUSY, x.pack(1, 0));
        Due.is(0, Due.at(x, 2).open(1));
        Due.is(VirtualFiles.BUSY, x.pack(0, 1));
        Due.is(VirtualFiles.OK, x.pack(1, 2));
        Due.is(VirtualFiles.OK, Due.at(x, 2).remove());
        Due.is(VirtualFiles.BUSY, x.pack(0, 1));
        Due.is(VirtualFiles.OK, x.close(0));
        Due.is(VirtualFiles.OK, x.pack(0, 1));
        Due.is(30, x.free(1));
        Due.is(VirtualFiles.OK, Due.at(x, 1).mount(1));
        Due.is(VirtualFiles.BUSY, x.pack(0, 1));
    }

    /** Disk 0 NODES, with a read-only copy of itself mounted on its directory 1. */
    private static VirtualFiles packed() {
        VirtualFiles x = Due.mounted(NODES);
        Due.directories(x, 1, 2);
        Due.file(x, 5, 3);
        Due.is(VirtualFiles.OK, Due.and(Due.at(x, 4), HERE, 3).link());
        Due.is(VirtualFiles.OK, Due.at(x, 2, 6).directory());
        Due.is(VirtualFiles.OK, x.pack(0, 1));
        Due.is(VirtualFiles.OK, Due.at(x, 1).mount(1));
        return x;
    }

    // "and perhaps READ-ONLY"
    private static void packedDisksRefuse() {
        VirtualFiles x = packed();
        Due.is(VirtualFiles.READONLY, Due.at(x, 1, 7).directory());
        Due.is(VirtualFiles.EXISTS, Due.at(x, 1, 2).directory());
        Due.is(VirtualFiles.READONLY, Due.and(Due.at(x, 1, 7), 3).link());
        Due.is(VirtualFiles.READONLY, Due.and(Due.at(x, 1, 7), 1, 3).entry());
        Due.is(VirtualFiles.READONLY, Due.and(Due.at(x, 1, 7), 3).entry());
        Due.is(VirtualFiles.CROSS, Due.and(Due.at(x, 7), 1, 3).entry());
        Due.is(VirtualFiles.READONLY, Due.at(x, 1, 7).open(1));
        Due.is(VirtualFiles.READONLY, Due.at(x, 1, 7).open(3));
        Due.is(VirtualFiles.NOENT, Due.at(x, 1, 7).open(0));
        Due.is(VirtualFiles.NOENT, Due.at(x, 1, 7).open(2));
        for (int how = 1; how <= 3; how++) {
            Due.is(VirtualFiles.READONLY, Due.at(x, 1, 3).open(how));
            Due.is(VirtualFiles.READONLY, Due.at(x, 1, 4).open(how));
            Due.is(VirtualFiles.ISDIR, Due.at(x, 1, 2).open(how));
        }
        Due.is(VirtualFiles.READONLY, Due.at(x, 1, 3).remove());
        Due.is(VirtualFiles.READONLY, Due.at(x, 1, 4).remove());
        Due.is(VirtualFiles.ISDIR, Due.at(x, 1, 2).remove());
        Due.is(VirtualFiles.NOENT, Due.at(x, 1, 9).remove());
        Due.is(VirtualFiles.READONLY, Due.at(x, 1, 2).prune());
        Due.is(VirtualFiles.READONLY, Due.at(x, 1, 2, 6).prune());
        Due.is(VirtualFiles.NOTDIR, Due.at(x, 1, 3).prune());
        Due.is(VirtualFiles.OK, Due.at(x, 1, 2, 6).enter());
        Due.is(VirtualFiles.BUSY, x.prune());
        Due.is(VirtualFiles.READONLY, Due.and(Due.at(x, 1, 3), 1, 9).rename());
        Due.is(VirtualFiles.READONLY, Due.and(Due.at(x, 1, 2), 1, 2, 9).rename());
        Due.is(VirtualFiles.CROSS, Due.and(Due.at(x, 1, 3), 9).rename());
        Due.is(VirtualFiles.CROSS, Due.and(Due.at(x, 3), 1, 9).rename());
        Due.is(26, x.free(1));
    }

    private static void packedDisksAreRead() {
        VirtualFiles x = packed();
        Due.is(0, Due.at(x, 1, 3).open(0));
        Due.is(1, x.read(0));
        Due.is(VirtualFiles.BAD, x.write(0, 1));
        Due.is(VirtualFiles.BAD, x.resize(0, 0));
        Due.is(VirtualFiles.OK, x.seek(0, 4));
        Due.is(5, x.read(0));
        Due.is(1, Due.at(x, 1, 4).open(0));
        Due.is(VirtualFiles.OK, Due.at(x, 1, 2).mount(2));
        Due.is(VirtualFiles.OK, Due.at(x, 1, 2, 1).directory());
        Due.is(2, x.about(true, 4));
        Due.is(VirtualFiles.BUSY, Due.at(x, 1, 2).prune());
        // Mended only by make.
        Due.is(VirtualFiles.BUSY, x.make(1, 0));
    }

    // Promise 8: "Disk d has no dead blocks any more."
    private static void sync() {
        VirtualFiles x = Due.mounted(LOG);
        for (int d = 0; d < 4; d++) {
            Due.is(0, x.sync(d));
        }
        Due.is(VirtualFiles.BAD, x.sync(-1));
        Due.is(VirtualFiles.BAD, x.sync(4));
        Due.file(x, 8, 1);
        Due.is(23, x.free(0));
        Due.is(0, x.sync(1));
        Due.is(6, x.sync(0));
        Due.is(0, x.sync(0));
        Due.is(29, x.free(0));
        // What is no longer taken is dead: a shorter file, one begun anew, one that is gone.
        Due.is(0, Due.at(x, 1).open(1));
        Due.is(VirtualFiles.OK, x.resize(0, 4));
        Due.is(1, x.sync(0));
        Due.is(1, Due.at(x, 1).open(2));
        Due.is(1, x.sync(0));
        Due.is(VirtualFiles.OK, x.write(1, 5));
        Due.is(0, x.sync(0));
        Due.is(VirtualFiles.OK, Due.at(x, 1).remove());
        Due.is(VirtualFiles.OK, x.close(1));
        Due.is(0, x.sync(0));
        Due.is(VirtualFiles.OK, x.close(0));
        Due.is(1, x.sync(0));
        // A directory leaves no dead block.
        Due.directories(x, 2);
        Due.is(VirtualFiles.OK, Due.at(x, 2).prune());
        Due.is(0, x.sync(0));
        Due.is(31, x.free(0));
    }

    private static void deadBlocksStayWithTheirDisk() {
        VirtualFiles x = Due.mounted(TABLE);
        Due.directories(x, 1, 2);
        Due.is(VirtualFiles.OK, x.make(1, LOG));
        Due.is(VirtualFiles.OK, Due.at(x, 1).mount(1));
        Due.file(x, 4, 1, 1);
        Due.is(VirtualFiles.OK, x.unmount(1));
        Due.is(27, x.free(1));
        Due.is(VirtualFiles.OK, Due.at(x, 2).mount(1));
        Due.is(27, x.free(1));
        Due.is(VirtualFiles.OK, x.pack(1, 3));
        Due.is(30, x.free(3));
        Due.is(0, x.sync(3));
        Due.is(27, x.free(1));
        Due.is(VirtualFiles.OK, x.unmount(1));
        Due.is(3, x.sync(1));
        Due.is(0, x.sync(1));
        Due.is(30, x.free(1));
    }

    // Promise 9: "How many blocks of disk d are free"
    private static void free() {
        VirtualFiles x = Due.mounted(TABLE);
        Due.is(VirtualFiles.BAD, x.free(-1));
        Due.is(VirtualFiles.BAD, x.free(4));
        Due.directories(x, 1, 2, 3, 4);
        Due.is(27, x.free(0));
        Due.directories(x, 5);
        Due.is(25, x.free(0));
        Due.is(2, Due.at(x).about(true, 3));
        Due.is(VirtualFiles.OK, Due.at(x, 3).prune());
        Due.is(27, x.free(0));
        Due.file(x, 1, 1, 1);
        Due.is(26, x.free(0));
        Due.file(x, 4, 1, 2);
        Due.is(25, x.free(0));
        Due.file(x, 5, 1, 3);
        Due.is(23, x.free(0));
        Due.file(x, 20, 1, 4);
        Due.is(18, x.free(0));
        Due.is(31, x.free(3));
    }
}
