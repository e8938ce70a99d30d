/** Promises 20 and 21: remove, prune. */
public final class RemovingTest {
    private static final int TABLE = 0, NODES = 1, LOG = 2, HERE = 0, UP = 15;

    public static void main(String[] args) {
        remove();
        removeOneOfSeveralEntries();
        removeLinks();
        removeRefuses();
        removeWhatIsOpen();
        prune();
        pruneRefuses();
        pruneIsBusy();
        Due.end();
    }

    // Promise 20: "Takes away the entry of A (not followed), which must not be a directory."
    private static void remove() {
        for (int format = TABLE; format <= LOG; format++) {
            VirtualFiles x = Due.mounted(format);
            Due.directories(x, 1);
            Due.file(x, 6, 1, 2);
            Due.file(x, 6, 3);
            x.sync(0);
            Due.is(26, x.free(0));
            Due.is(VirtualFiles.OK, Due.at(x, 1, 2).remove());
            Due.is(VirtualFiles.NOENT, x.remove());
            Due.names(Due.at(x, 1));
            Due.is(format == LOG ? 2 : 0, x.sync(0));
            Due.is(28, x.free(0));
            Due.is(VirtualFiles.OK, Due.at(x, HERE, 3).remove());
            Due.names(Due.at(x), 1);
            x.sync(0);
            Due.is(30, x.free(0));
        }
        VirtualFiles x = Due.mounted(TABLE);
        Due.file(x, 1, 3);
        Due.is(VirtualFiles.OK, Due.at(x, 10).remove());
        Due.names(Due.at(x));
        Due.directories(x, 1, 2, 3, 4);
        Due.file(x, 0, 5);
        Due.is(26, x.free(0));
        Due.is(VirtualFiles.OK, Due.at(x, 12).remove());
        Due.is(27, x.free(0));
    }

    private static void removeOneOfSeveralEntries() {
        VirtualFiles x = Due.mounted(NODES);
        Due.file(x, 9, 1);
        Due.is(VirtualFiles.OK, Due.and(Due.at(x, 2), 1).entry());
        Due.is(VirtualFiles.OK, Due.at(x, 1).remove());
        Due.is(28, x.free(0));
        Due.is(1, Due.at(x, 2).about(true, 2));
        Due.is(9, x.about(true, 1));
        Due.is(VirtualFiles.NOENT, Due.at(x, 1).about(true, 0));
        Due.is(VirtualFiles.OK, Due.at(x, 2).remove());
        Due.is(31, x.free(0));
    }

    private static void removeLinks() {
        VirtualFiles x = Due.mounted(LOG);
        Due.directories(x, 1);
        Due.file(x, 1, 2);
        Due.is(VirtualFiles.OK, Due.and(Due.at(x, 3), 1).link());
        Due.is(VirtualFiles.OK, Due.and(Due.at(x, 4), 2).link());
        Due.is(VirtualFiles.OK, Due.at(x, 3).remove());
        Due.is(VirtualFiles.OK, Due.at(x, 4).remove());
        Due.names(Due.at(x), 1, 2);
        Due.is(0, x.sync(0));
        Due.is(29, x.free(0));
        // A link in the middle of the way is followed.
        Due.file(x, 0, 1, 5);
        Due.is(VirtualFiles.OK, Due.and(Due.at(x, 3), 1).link());
        Due.is(VirtualFiles.OK, Due.at(x, 3, 5).remove());
        Due.names(Due.at(x, 1));
        Due.names(Due.at(x), 1, 2, 3);
    }

    private static void removeRefuses() {
        VirtualFiles x = Due.mounted(NODES);
        Due.directories(x, 1);
        Due.file(x, 1, 2);
        Due.is(VirtualFiles.INVALID, Due.at(x).remove());
        Due.is(VirtualFiles.INVALID, Due.at(x, HERE).remove());
        Due.is(VirtualFiles.INVALID, Due.at(x, UP).remove());
        Due.is(VirtualFiles.INVALID, Due.at(x, 9, UP).remove());
        Due.is(VirtualFiles.NOENT, Due.at(x, 9, 1).remove());
        Due.is(VirtualFiles.NOTDIR, Due.at(x, 2, 1).remove());
        Due.is(VirtualFiles.NOENT, Due.at(x, 1, 1).remove());
        Due.is(VirtualFiles.NOENT, Due.at(x, 9).remove());
        Due.is(VirtualFiles.ISDIR, Due.at(x, 1).remove());
        Due.is(VirtualFiles.OK, Due.at(x, 1).mount(1));
        Due.is(VirtualFiles.ISDIR, Due.at(x, 1).remove());
        Due.names(Due.at(x), 1, 2);
    }

    private static void removeWhatIsOpen() {
        VirtualFiles x = Due.mounted(NODES);
        Due.file(x, 4, 1);
        Due.is(VirtualFiles.OK, Due.and(Due.at(x, 2), 1).entry());
        Due.is(0, Due.at(x, 1).open(0));
        Due.is(VirtualFiles.OK, Due.at(x, 1).remove());
        Due.is(VirtualFiles.OK, Due.at(x, 2).remove());
        Due.is(30, x.free(0));
        for (int i = 1; i <= 4; i++) {
            Due.is(i, x.read(0));
        }
        Due.is(VirtualFiles.OK, x.close(0));
        Due.is(31, x.free(0));
        // Closing does not end a file that still has an entry.
        Due.file(x, 4, 1);
        Due.is(4, Due.at(x, 1).about(true, 1));
    }

    // Promise 21: "Takes away the empty directory A (not followed)."
    private static void prune() {
        for (int format = TABLE; format <= LOG; format++) {
            VirtualFiles x = Due.mounted(format);
            Due.directories(x, 1, 3);
            Due.is(VirtualFiles.OK, Due.at(x, 1, 2).directory());
            Due.is(VirtualFiles.NOTEMPTY, Due.at(x, 1).prune());
            Due.is(VirtualFiles.OK, Due.at(x, 1, 2).prune());
            Due.is(VirtualFiles.NOENT, Due.at(x, 1, 2).prune());
            Due.is(29, x.free(0));
            Due.is(VirtualFiles.OK, Due.at(x, HERE, 1).prune());
            Due.names(Due.at(x), 3);
            Due.is(30, x.free(0));
            Due.is(0, x.sync(0));
        }
        VirtualFiles x = Due.mounted(TABLE);
        Due.directories(x, 3);
        Due.is(VirtualFiles.OK, Due.at(x, 10).prune());
        Due.names(Due.at(x));
    }

    private static void pruneRefuses() {
        VirtualFiles x = Due.mounted(LOG);
        Due.directories(x, 1);
        Due.file(x, 1, 2);
        Due.is(VirtualFiles.OK, Due.and(Due.at(x, 3), 1).link());
        Due.is(VirtualFiles.INVALID, Due.at(x).prune());
        Due.is(VirtualFiles.INVALID, Due.at(x, HERE).prune());
        Due.is(VirtualFiles.INVALID, Due.at(x, 1, UP).prune());
        Due.is(VirtualFiles.NOENT, Due.at(x, 9, 1).prune());
        Due.is(VirtualFiles.NOTDIR, Due.at(x, 2, 1).prune());
        Due.is(VirtualFiles.NOENT, Due.at(x, 9).prune());
        Due.is(VirtualFiles.NOTDIR, Due.at(x, 2).prune());
        Due.is(VirtualFiles.NOTDIR, Due.at(x, 3).prune());
        Due.file(x, 0, 1, 1);
        Due.is(VirtualFiles.NOTEMPTY, Due.at(x, 1).prune());
        Due.is(VirtualFiles.OK, Due.at(x, 1, 1).remove());
        Due.is(VirtualFiles.OK, Due.at(x, 1).prune());
        Due.names(Due.at(x), 2, 3);
    }

    private static void pruneIsBusy() {
        VirtualFiles x = Due.mounted(NODES);
        Due.directories(x, 1, 2);
        Due.is(VirtualFiles.OK, Due.at(x, 1).mount(1));
        Due.is(VirtualFiles.BUSY, Due.at(x, 1).prune());
        Due.is(VirtualFiles.OK, Due.at(x, 1, 3).directory());
        Due.is(VirtualFiles.BUSY, Due.at(x, 1).prune());
        Due.is(VirtualFiles.OK, x.unmount(1));
        Due.is(VirtualFiles.OK, Due.at(x, 1).prune());
        Due.is(VirtualFiles.OK, Due.at(x, 2).enter());
        Due.is(VirtualFiles.BUSY, Due.at(x, 2).prune());
        // BUSY stands before NOTEMPTY.
        Due.is(VirtualFiles.OK, Due.at(x, 2, 4).directory());
        Due.is(VirtualFiles.BUSY, Due.at(x, 2).prune());
        Due.is(VirtualFiles.OK, Due.at(x, HERE, 4).enter());
        Due.is(VirtualFiles.NOTEMPTY, Due.at(x, 2).prune());
        Due.is(VirtualFiles.OK, Due.at(x).enter());
        Due.is(VirtualFiles.OK, Due.at(x, 2, 4).prune());
        Due.is(VirtualFiles.OK, Due.at(x, 2).prune());
    }
}
