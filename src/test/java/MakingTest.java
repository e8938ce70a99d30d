/** Promises 11 to 13: directory, link, entry. */
public final class MakingTest {
    private static final int TABLE = 0, NODES = 1, LOG = 2, HERE = 0, UP = 15;

    public static void main(String[] args) {
        directory();
        directoryRefuses();
        directoryNeedsAnObject();
        directoryNeedsAnEntry();
        directoryNeedsBlocksOnTable();
        directoryNeedsABlockOnNodes();
        directoryNeedsABlockOnLog();
        link();
        linkRefuses();
        linkNeedsNoBlock();
        entry();
        entryRefuses();
        entryRefusesInOrder();
        Due.end();
    }

    // Promise 11: "Makes a directory at the place of A."
    private static void directory() {
        for (int format = TABLE; format <= LOG; format++) {
            VirtualFiles x = Due.mounted(format);
            Due.is(VirtualFiles.OK, Due.at(x, 14).directory());
            Due.is(VirtualFiles.OK, Due.at(x, 14, 14).directory());
            Due.is(VirtualFiles.OK, Due.at(x, 14, 14, UP, 1).directory());
            Due.is(VirtualFiles.OK, Due.at(x, HERE, 3).directory());
            Due.names(Due.at(x), 3, 14);
            Due.names(Due.at(x, 14), 1, 14);
            Due.names(Due.at(x, 14, 1));
            Due.is(1, x.about(true, 2));
            Due.is(1, x.about(true, 3));
            Due.is(27, x.free(0));
            // One that takes the number of an object that is gone is empty too.
            Due.is(VirtualFiles.OK, Due.at(x, 14, 1).prune());
            Due.file(x, 5, 14, 1);
            Due.is(VirtualFiles.OK, Due.at(x, 14, 1).remove());
            x.sync(0);
            Due.is(VirtualFiles.OK, Due.at(x, 3, 1).directory());
            Due.is(0, x.about(true, 1));
            Due.is(1, x.about(true, 3));
            Due.is(27, x.free(0));
        }
    }

    private static void directoryRefuses() {
        VirtualFiles x = Due.mounted(NODES);
        Due.file(x, 1, 1);
        Due.is(VirtualFiles.OK, Due.and(Due.at(x, 2), 9).link());
        Due.is(VirtualFiles.OK, Due.and(Due.at(x, 3), 1).link());
        Due.is(VirtualFiles.INVALID, Due.at(x).directory());
        Due.is(VirtualFiles.INVALID, Due.at(x, HERE).directory());
        Due.is(VirtualFiles.INVALID, Due.at(x, UP).directory());
        Due.is(VirtualFiles.INVALID, Due.at(x, 9, UP).directory());
        Due.is(VirtualFiles.NOENT, Due.at(x, 9, 1).directory());
        Due.is(VirtualFiles.NOENT, Due.at(x, 2, 1).directory());
        Due.is(VirtualFiles.NOTDIR, Due.at(x, 1, 1).directory());
        Due.is(VirtualFiles.NOTDIR, Due.at(x, 3, 1).directory());
        Due.is(VirtualFiles.NOTDIR, Due.at(x, 1, UP, 1).directory());
        Due.is(VirtualFiles.EXISTS, Due.at(x, 1).directory());
        Due.is(VirtualFiles.EXISTS, Due.at(x, 2).directory());
        Due.names(Due.at(x), 1, 2, 3);
        VirtualFiles y = Due.mounted(TABLE);
        Due.directories(y, 1, 9);
        Due.is(VirtualFiles.EXISTS, Due.at(y, 8).directory());
        Due.is(VirtualFiles.EXISTS, Due.at(y, 2).directory());
        Due.names(Due.at(y), 1, 9);
    }

    private static void directoryNeedsAnObject() {
        for (int format = TABLE; format <= LOG; format++) {
            VirtualFiles x = Due.mounted(format);
            Due.directories(x, 1, 2, 3, 4, 5, 6);
            Due.is(VirtualFiles.OK, Due.at(x, 1, 1).directory());
            Due.is(0, Due.at(x, 1, 2).open(1));
            Due.is(VirtualFiles.OK, Due.at(x, 1, 3).directory());
            Due.is(VirtualFiles.FULL, Due.at(x, 1, 4).directory());
            Due.is(VirtualFiles.FULL, Due.at(x, 1, 4).open(1));
            // A file that is open is an object though it has no entry.
            Due.is(VirtualFiles.OK, Due.at(x, 1, 2).remove());
            Due.is(VirtualFiles.FULL, Due.at(x, 1, 4).directory());
            Due.is(VirtualFiles.OK, x.close(0));
            Due.is(VirtualFiles.OK, Due.at(x, 1, 4).directory());
            Due.is(VirtualFiles.FULL, Due.at(x, 1, 5).directory());
            Due.is(VirtualFiles.EXISTS, Due.at(x, 1, 4).directory());
        }
    }

    private static void directoryNeedsAnEntry() {
        for (int format = TABLE; format <= LOG; format++) {
            VirtualFiles x = Due.mounted(format);
            Due.directories(x, 1, 2, 3, 4, 5, 6);
            Due.is(VirtualFiles.FULL, Due.at(x, 7).directory());
            Due.is(6, Due.at(x).about(true, 1));
            Due.is(VirtualFiles.OK, Due.at(x, 6).prune());
            Due.is(VirtualFiles.OK, Due.at(x, 7).directory());
            Due.names(Due.at(x), 1, 2, 3, 4, 5, 7);
        }
    }

    private static void grow(VirtualFiles x, int size, int... a) {
        int h = Due.at(x, a).open(1);
        Due.yes(h >= 0);
        Due.is(VirtualFiles.OK, x.resize(h, size));
        Due.is(VirtualFiles.OK, x.close(h));
    }

    private static void directoryNeedsBlocksOnTable() {
        VirtualFiles x = Due.mounted(TABLE);
        Due.directories(x, 1);
        for (int n = 1; n <= 5; n++) {
            grow(x, 20, 1, n);
        }
        grow(x, 8, 2);
        Due.is(2, x.free(0));
        grow(x, 0, 3);
        // Five entries take a block more, and so does the directory.
        Due.is(VirtualFiles.OK, Due.at(x, 4).directory());
        Due.is(1, x.free(0));
        Due.is(VirtualFiles.FULL, Due.at(x, 5).directory());
        Due.is(1, x.free(0));
        Due.names(Due.at(x), 1, 2, 3, 4);
        Due.is(VirtualFiles.OK, Due.at(x, 4).prune());
        Due.is(2, x.free(0));
        grow(x, 0, 4);
        Due.is(VirtualFiles.OK, Due.at(x, 3).remove());
        Due.is(VirtualFiles.OK, Due.at(x, 3).directory());
        grow(x, 12, 2);
        Due.is(0, x.free(0));
        Due.is(VirtualFiles.FULL, Due.at(x, 5).open(1));
        Due.is(VirtualFiles.FULL, Due.at(x, 3, 5).directory());
        Due.is(VirtualFiles.NOENT, Due.at(x, 5).about(true, 0));
        // Four entries need no more than one.
        Due.is(VirtualFiles.OK, Due.at(x, 4).remove());
        grow(x, 0, 4);
        Due.is(0, x.free(0));
    }

    private static void directoryNeedsABlockOnNodes() {
        VirtualFiles x = Due.mounted(NODES);
        Due.directories(x, 8);
        for (int n = 1; n <= 5; n++) {
            Due.file(x, 20, n);
        }
        Due.file(x, 20, 8, 1);
        Due.is(0, x.free(0));
        Due.is(VirtualFiles.FULL, Due.at(x, 8, 2).directory());
        Due.is(0, Due.at(x, 1).open(1));
        Due.is(VirtualFiles.OK, x.resize(0, 16));
        Due.is(VirtualFiles.OK, Due.at(x, 8, 2).directory());
        Due.is(0, x.free(0));
        Due.is(1, Due.at(x, 8, 3).open(1));
        Due.is(VirtualFiles.FULL, x.write(1, 1));
        Due.is(0, Due.at(x, 8, 3).about(true, 1));
    }

    /** A LOG disk without a free block, handle 0 open on file 1 that takes one of them. */
    private static VirtualFiles fullOfDeadBlocks() {
        VirtualFiles x = Due.mounted(LOG);
        Due.is(0, Due.at(x, 1).open(1));
        for (int i = 0; i < 31; i++) {
            Due.is(VirtualFiles.OK, x.seek(0, 0));
            Due.is(VirtualFiles.OK, x.write(0, i));
        }
        Due.is(0, x.free(0));
        return x;
    }

    private static void directoryNeedsABlockOnLog() {
        VirtualFiles x = fullOfDeadBlocks();
        Due.is(VirtualFiles.FULL, Due.at(x, 2).directory());
        Due.is(30, x.sync(0));
        Due.is(VirtualFiles.OK, x.directory());
        Due.is(29, x.free(0));
    }

    // Promise 12: "Makes a link with the steps of B at the place of A."
    private static void link() {
        for (int format = NODES; format <= LOG; format++) {
            VirtualFiles x = Due.mounted(format);
            Due.directories(x, 1);
            Due.is(VirtualFiles.OK, Due.and(Due.at(x, 1, 2), HERE, UP, 3, 4, 5).link());
            Due.is(3, x.about(false, 0));
            Due.is(5, x.about(false, 1));
            Due.is(VirtualFiles.OK, Due.and(Due.at(x, 2)).link());
            Due.is(0, x.about(false, 1));
            Due.is(1, x.about(true, 0));
            Due.is(30, x.free(0));
            Due.file(x, 3, 3);
            Due.is(VirtualFiles.OK, Due.and(Due.at(x, 4), 3).link());
            // A link keeps its steps, whatever comes into the drafts later.
            Due.is(3, Due.at(x, 4).about(true, 1));
            Due.is(VirtualFiles.NOTDIR, Due.and(Due.at(x, 1, 2), 3).about(true, 0));
            Due.is(VirtualFiles.OK, Due.at(x, 3).remove());
            Due.is(VirtualFiles.NOENT, Due.at(x, 4).about(true, 0));
            Due.directories(x, 3);
            Due.is(1, Due.at(x, 4).about(true, 0));
            Due.is(VirtualFiles.OK, Due.at(x, 4, 9).directory());
            Due.names(Due.at(x, 3), 9);
        }
    }

    private static void linkRefuses() {
        VirtualFiles x = Due.mounted(NODES);
        Due.file(x, 1, 1);
        Due.is(VirtualFiles.OK, Due.and(Due.at(x, 2), 9).link());
        Due.is(VirtualFiles.INVALID, Due.and(Due.at(x), 1).link());
        Due.is(VirtualFiles.INVALID, Due.and(Due.at(x, HERE), 1).link());
        Due.is(VirtualFiles.INVALID, Due.and(Due.at(x, 1, UP), 1).link());
        Due.is(VirtualFiles.NOENT, Due.and(Due.at(x, 2, 1), 1).link());
        Due.is(VirtualFiles.NOTDIR, Due.and(Due.at(x, 1, 1), 1).link());
        Due.is(VirtualFiles.EXISTS, Due.and(Due.at(x, 2), 1).link());
        Due.directories(x, 3, 4, 5, 6);
        Due.is(VirtualFiles.FULL, Due.and(Due.at(x, 7), 1).link());
        Due.is(VirtualFiles.OK, Due.and(Due.at(x, 3, 1), 1).link());
        Due.is(VirtualFiles.OK, Due.and(Due.at(x, 3, 2), 1).link());
        Due.is(VirtualFiles.OK, Due.and(Due.at(x, 3, 3), 1).link());
        Due.is(VirtualFiles.FULL, Due.and(Due.at(x, 3, 4), 1).link());
        VirtualFiles y = Due.mounted(TABLE);
        Due.directories(y, 1, 2, 3, 4, 5, 6);
        Due.is(VirtualFiles.UNSUPPORTED, Due.and(Due.at(y, 7), 1).link());
        Due.is(VirtualFiles.EXISTS, Due.and(Due.at(y, 8), 1).link());
        Due.is(VirtualFiles.INVALID, Due.and(Due.at(y, UP), 1).link());
        Due.is(VirtualFiles.OK, y.pack(0, 1));
        Due.is(VirtualFiles.OK, Due.at(y, 1).mount(1));
        Due.is(VirtualFiles.READONLY, Due.and(Due.at(y, 1, 7), 1).link());
    }

    private static void linkNeedsNoBlock() {
        VirtualFiles x = fullOfDeadBlocks();
        Due.is(VirtualFiles.OK, Due.and(Due.at(x, 2), 1).link());
        Due.is(1, Due.at(x, 3).open(3));
        Due.is(VirtualFiles.OK, x.resize(1, 20));
        Due.is(VirtualFiles.FULL, x.write(1, 1));
        Due.is(0, x.free(0));
    }

    // Promise 13: "Makes a further entry for file B (not followed) at the place of A."
    private static void entry() {
        VirtualFiles x = Due.mounted(NODES);
        Due.directories(x, 1);
        Due.file(x, 5, 2);
        Due.is(VirtualFiles.OK, Due.and(Due.at(x, 1, 3), 2).entry());
        Due.is(VirtualFiles.OK, Due.and(Due.at(x, 4), HERE, 1, 3).entry());
        Due.is(3, Due.at(x, 4).about(true, 2));
        Due.is(3, Due.at(x, 2).about(true, 2));
        Due.is(2, x.about(true, 3));
        Due.is(28, x.free(0));
        Due.is(0, Due.at(x, 4).open(1));
        Due.is(VirtualFiles.OK, x.write(0, 9));
        Due.is(1, Due.at(x, 2).open(0));
        Due.is(9, x.read(1));
        Due.is(VirtualFiles.OK, x.close(0));
        Due.is(VirtualFiles.OK, x.close(1));
        Due.is(VirtualFiles.OK, Due.at(x, 2).remove());
        Due.is(2, Due.at(x, 4).about(true, 2));
        Due.is(VirtualFiles.OK, Due.at(x, 4).remove());
        Due.is(5, Due.at(x, 1, 3).about(true, 1));
        Due.is(28, x.free(0));
        Due.is(VirtualFiles.OK, Due.at(x, 1, 3).remove());
        Due.is(30, x.free(0));
    }

    private static void entryRefuses() {
        VirtualFiles x = Due.mounted(NODES);
        Due.directories(x, 1);
        Due.file(x, 1, 2);
        Due.is(VirtualFiles.OK, Due.and(Due.at(x, 3), 2).link());
        Due.is(VirtualFiles.OK, Due.and(Due.at(x, 4), 1).link());
        Due.is(VirtualFiles.NOENT, Due.and(Due.at(x, 5), 9).entry());
        Due.is(VirtualFiles.NOTDIR, Due.and(Due.at(x, 5), 2, 2).entry());
        Due.is(VirtualFiles.ISDIR, Due.and(Due.at(x, 5), 1).entry());
        Due.is(VirtualFiles.ISDIR, Due.and(Due.at(x, 5)).entry());
        Due.is(VirtualFiles.ISDIR, Due.and(Due.at(x, 5), HERE).entry());
        Due.is(VirtualFiles.UNSUPPORTED, Due.and(Due.at(x, 5), 3).entry());
        Due.is(VirtualFiles.UNSUPPORTED, Due.and(Due.at(x, 5), 4).entry());
        Due.is(VirtualFiles.INVALID, Due.and(Due.at(x, UP), 2).entry());
        Due.is(VirtualFiles.NOENT, Due.and(Due.at(x, 9, 9), 2).entry());
        Due.is(VirtualFiles.NOTDIR, Due.and(Due.at(x, 3, 9), 2).entry());
        Due.is(VirtualFiles.EXISTS, Due.and(Due.at(x, 2), 2).entry());
        Due.is(VirtualFiles.OK, Due.and(Due.at(x, 5), 2).entry());
        Due.is(VirtualFiles.OK, Due.and(Due.at(x, 6), 2).entry());
        Due.is(VirtualFiles.FULL, Due.and(Due.at(x, 7), 2).entry());
        Due.is(VirtualFiles.UNSUPPORTED, Due.and(Due.at(x, 7), 3).entry());
        Due.is(3, Due.at(x, 2).about(true, 2));
        for (int format = TABLE; format <= LOG; format += 2) {
            VirtualFiles y = Due.mounted(format);
            Due.file(y, 1, 1);
            Due.is(VirtualFiles.UNSUPPORTED, Due.and(Due.at(y, 2), 1).entry());
            Due.is(VirtualFiles.EXISTS, Due.and(Due.at(y, 1), 1).entry());
            Due.is(1, Due.at(y, 1).about(true, 2));
        }
        // A further entry is no further object.
        VirtualFiles z = Due.mounted(NODES);
        Due.directories(z, 1, 2, 3, 4, 5);
        for (int n = 1; n <= 4; n++) {
            Due.file(z, 0, 1, n);
        }
        Due.is(VirtualFiles.FULL, Due.at(z, 1, 5).open(1));
        Due.is(VirtualFiles.OK, Due.and(Due.at(z, 1, 5), 1, 1).entry());
    }

    private static void entryRefusesInOrder() {
        VirtualFiles x = Due.mounted(NODES);
        Due.directories(x, 1, 2);
        Due.file(x, 1, 3);
        Due.is(VirtualFiles.OK, Due.at(x, 1).mount(1));
        Due.file(x, 1, 1, 3);
        Due.is(VirtualFiles.CROSS, Due.and(Due.at(x, 4), 1, 3).entry());
        Due.is(VirtualFiles.CROSS, Due.and(Due.at(x, 1, 4), 3).entry());
        Due.is(VirtualFiles.EXISTS, Due.and(Due.at(x, 1, 3), 3).entry());
        Due.is(VirtualFiles.EXISTS, Due.and(Due.at(x, 1, 10), 3).entry());
        Due.is(VirtualFiles.UNSUPPORTED, Due.and(Due.at(x, 1, 4), 1, 3).entry());
        Due.is(VirtualFiles.ISDIR, Due.and(Due.at(x, UP), 1).entry());
        Due.is(VirtualFiles.NOENT, Due.and(Due.at(x, UP), 9).entry());
        Due.is(VirtualFiles.OK, Due.and(Due.at(x, 2, 5), 3).link());
        Due.is(VirtualFiles.CROSS, Due.and(Due.at(x, 1, 4), 2, 5).entry());
        Due.is(VirtualFiles.BAD, Due.and(Due.at(new VirtualFiles(), 1), 1).entry());
    }
}
