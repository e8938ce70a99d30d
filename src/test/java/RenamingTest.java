/** Promise 22: rename. */
public final class RenamingTest {
    private static final int TABLE = 0, NODES = 1, LOG = 2, HERE = 0, UP = 15;

    public static void main(String[] args) {
        toANewName();
        directoriesWithWhatIsBelow();
        links();
        refusedForA();
        refusedForB();
        refusedOnTheWayToB();
        refusedInOrder();
        intoItself();
        ontoItself();
        ontoTheSameFile();
        ontoFiles();
        ontoOpenFiles();
        ontoDirectories();
        ontoAnotherKind();
        intoAFullDirectory();
        withoutABlock();
        Due.end();
    }

    private static int rename(VirtualFiles x, int[] a, int... b) {
        return Due.and(Due.at(x, a), b).rename();
    }

    private static int[] from(int... steps) {
        return steps;
    }

    // Promise 22: "The entry of A (not followed) becomes that at the place of B."
    private static void toANewName() {
        for (int format = TABLE; format <= LOG; format++) {
            VirtualFiles x = Due.mounted(format);
            Due.directories(x, 1);
            Due.file(x, 5, 2);
            x.sync(0);
            Due.is(VirtualFiles.OK, rename(x, from(2), 3));
            Due.names(Due.at(x), 1, 3);
            Due.is(VirtualFiles.OK, rename(x, from(HERE, 3), 1, 14));
            Due.names(Due.at(x), 1);
            Due.names(Due.at(x, 1), 14);
            Due.is(5, Due.at(x, 1, 14).about(true, 1));
            Due.is(1, x.about(true, 2));
            Due.is(28, x.free(0));
            Due.is(0, x.sync(0));
            Due.is(0, Due.at(x, 1, 14).open(1));
            Due.is(VirtualFiles.OK, rename(x, from(1, 14), 4));
            Due.is(1, x.read(0));
            Due.is(VirtualFiles.OK, x.write(0, 9));
            Due.is(VirtualFiles.OK, x.close(0));
            Due.is(5, Due.at(x, 4).about(true, 1));
        }
    }

    private static void directoriesWithWhatIsBelow() {
        VirtualFiles x = Due.mounted(LOG);
        Due.directories(x, 1, 2);
        Due.is(VirtualFiles.OK, Due.at(x, 1, 3).directory());
        Due.is(VirtualFiles.OK, Due.at(x, 1, 3, 4).directory());
        Due.is(VirtualFiles.OK, Due.at(x, 1, 3, 4).mount(1));
        Due.is(VirtualFiles.OK, Due.at(x, 1, 3, 4).enter());
        Due.is(VirtualFiles.OK, rename(x, from(1, 3), 2, 5));
        Due.names(Due.at(x, 1));
        Due.names(Due.at(x, 2), 5);
        Due.names(Due.at(x, HERE, UP), 4);
        Due.names(Due.at(x, HERE, UP, UP), 5);
        Due.is(1, Due.at(x, 2, 5, 4).about(true, 4));
        Due.is(1, Due.at(x, 2, 5).about(true, 2));
        Due.is(VirtualFiles.INVALID, rename(x, from(2, 5, UP), 9));
        Due.is(VirtualFiles.OK, rename(x, from(2), 1, 1));
        Due.names(Due.at(x), 1);
        Due.names(Due.at(x, 1, 1, 5), 4);
    }

    private static void links() {
        VirtualFiles x = Due.mounted(NODES);
        Due.directories(x, 1, 2);
        Due.file(x, 3, 1, 3);
        Due.is(VirtualFiles.OK, Due.and(Due.at(x, 4), HERE, 1).link());
        Due.is(VirtualFiles.OK, rename(x, from(4), 5));
        Due.is(3, Due.at(x, 5).about(false, 0));
        Due.names(Due.at(x, 5), 3);
        Due.is(VirtualFiles.OK, rename(x, from(5, 3), 5, 6));
        Due.names(Due.at(x, 1), 6);
        // HERE is now where the link has been brought.
        Due.is(VirtualFiles.OK, rename(x, from(5), 2, 5));
        Due.is(VirtualFiles.NOENT, Due.at(x, 2, 5).about(true, 0));
        Due.is(VirtualFiles.OK, rename(x, from(2, 5), 5));
        // The link itself goes, not what it leads to.
        Due.is(VirtualFiles.NOTDIR, rename(x, from(2), 5));
        Due.file(x, 1, 7);
        Due.is(VirtualFiles.OK, rename(x, from(7), 5));
        Due.is(2, Due.at(x, 5).about(false, 0));
        Due.names(Due.at(x), 1, 2, 5);
        Due.is(VirtualFiles.OK, Due.and(Due.at(x, 8), 5).link());
        Due.is(VirtualFiles.OK, rename(x, from(8), 5));
        Due.is(3, Due.at(x, 5).about(false, 0));
        Due.is(VirtualFiles.LOOP, Due.at(x, 5).about(true, 0));
    }

    private static void refusedForA() {
        VirtualFiles x = Due.mounted(NODES);
        Due.directories(x, 1);
        Due.file(x, 1, 2);
        Due.is(VirtualFiles.BAD, rename(new VirtualFiles(), from(1), 2));
        Due.is(VirtualFiles.INVALID, rename(x, from(), 3));
        Due.is(VirtualFiles.INVALID, rename(x, from(HERE), 3));
        Due.is(VirtualFiles.INVALID, rename(x, from(1, UP), 3));
        Due.is(VirtualFiles.NOENT, rename(x, from(9, 9), 3));
        Due.is(VirtualFiles.NOTDIR, rename(x, from(2, 9), 3));
        Due.is(VirtualFiles.NOENT, rename(x, from(9), 3));
        // What is wrong with A is said before what is wrong with B.
        Due.is(VirtualFiles.NOENT, rename(x, from(9)));
        Due.is(VirtualFiles.NOTDIR, rename(x, from(2, 9), 9, 9));
        Due.names(Due.at(x), 1, 2);
    }

    private static void refusedForB() {
        VirtualFiles x = Due.mounted(NODES);
        Due.directories(x, 1);
        Due.file(x, 1, 2);
        Due.is(VirtualFiles.INVALID, rename(x, from(2)));
        Due.is(VirtualFiles.INVALID, rename(x, from(2), HERE));
        Due.is(VirtualFiles.INVALID, rename(x, from(2), 1, UP));
        Due.is(VirtualFiles.INVALID, rename(x, from(2), 9, UP));
        Due.is(VirtualFiles.NOENT, rename(x, from(2), 9, 9));
        Due.is(VirtualFiles.NOTDIR, rename(x, from(2), 2, 9));
        Due.is(VirtualFiles.NOTDIR, rename(x, from(1), 2, 9, 9));
        Due.names(Due.at(x), 1, 2);
    }

    private static void refusedOnTheWayToB() {
        VirtualFiles x = Due.mounted(NODES);
        Due.directories(x, 1);
        Due.is(VirtualFiles.OK, Due.and(Due.at(x, 2), 2).link());
        Due.is(VirtualFiles.LOOP, rename(x, from(1), 2, 3));
        Due.is(VirtualFiles.LOOP, rename(x, from(2, 3), 1, 3));
        Due.is(VirtualFiles.OK, rename(x, from(2), 1, 3));
        Due.names(Due.at(x, 1), 3);
    }

    private static void refusedInOrder() {
        VirtualFiles x = Due.mounted(NODES);
        Due.directories(x, 1, 2);
        Due.is(VirtualFiles.OK, Due.at(x, 2, 3).directory());
        Due.is(VirtualFiles.OK, Due.at(x, 1).mount(1));
        Due.is(VirtualFiles.OK, Due.at(x, 1, 4).directory());
        // CROSS stands before BUSY, and the root of a disk is on that disk.
        Due.is(VirtualFiles.CROSS, rename(x, from(1), 1, 5));
        Due.is(VirtualFiles.CROSS, rename(x, from(2), 1, 4));
        Due.is(VirtualFiles.CROSS, rename(x, from(1, 4), 4));
        Due.is(VirtualFiles.CROSS, rename(x, from(1, 4), 2));
        Due.is(VirtualFiles.BUSY, rename(x, from(1), 5));
        Due.is(VirtualFiles.BUSY, rename(x, from(1), 1));
        Due.is(VirtualFiles.BUSY, rename(x, from(1), 2));
        Due.is(VirtualFiles.BUSY, rename(x, from(2, 3), 1));
        Due.is(VirtualFiles.OK, Due.at(x, 2, 3).mount(2));
        Due.is(VirtualFiles.BUSY, rename(x, from(2, 3), 5));
        Due.is(VirtualFiles.OK, x.unmount(2));
        Due.is(VirtualFiles.OK, rename(x, from(2, 3), 5));
        // BUSY stands before INVALID, INVALID before what stands in the place.
        Due.is(VirtualFiles.OK, Due.at(x, 5).enter());
        Due.is(VirtualFiles.OK, Due.at(x, HERE).mount(2));
        Due.is(VirtualFiles.BUSY, rename(x, from(5), HERE, 6));
        Due.is(VirtualFiles.BUSY, rename(x, from(2), 5));
    }

    private static void intoItself() {
        for (int format = TABLE; format <= LOG; format++) {
            VirtualFiles x = Due.mounted(format);
            Due.directories(x, 1, 2);
            Due.is(VirtualFiles.OK, Due.at(x, 1, 3).directory());
            Due.is(VirtualFiles.OK, Due.at(x, 1, 3, 4).directory());
            Due.is(VirtualFiles.INVALID, rename(x, from(1), 1, 5));
            Due.is(VirtualFiles.INVALID, rename(x, from(1), 1, 3));
            Due.is(VirtualFiles.INVALID, rename(x, from(1), 1, 3, 5));
            Due.is(VirtualFiles.INVALID, rename(x, from(1), 1, 3, 4, 5));
            Due.is(VirtualFiles.INVALID, rename(x, from(1), 1, 3, 4, UP, 4));
            Due.is(VirtualFiles.OK, rename(x, from(1, 3), 1, 5));
            Due.is(VirtualFiles.OK, rename(x, from(1, 5, 4), 1, 4));
            Due.is(VirtualFiles.OK, rename(x, from(2), 1, 5));
            Due.names(Due.at(x), 1);
            Due.names(Due.at(x, 1), 4, 5);
            Due.is(28, x.free(0));
        }
    }

    private static void ontoItself() {
        VirtualFiles x = Due.mounted(TABLE);
        Due.directories(x, 1, 2);
        Due.is(VirtualFiles.OK, rename(x, from(1), 1));
        Due.names(Due.at(x), 1, 2);
        Due.is(VirtualFiles.OK, rename(x, from(1), 8));
        Due.names(Due.at(x), 2, 8);
        Due.is(VirtualFiles.OK, rename(x, from(1), 8));
        Due.names(Due.at(x), 2, 8);
        Due.is(VirtualFiles.OK, rename(x, from(8), 1));
        Due.names(Due.at(x), 1, 2);
        // Here too the directory may be the current one, and need not be empty.
        Due.is(VirtualFiles.OK, Due.at(x, 1, 1).directory());
        Due.is(VirtualFiles.OK, Due.at(x, 1).enter());
        Due.is(VirtualFiles.OK, rename(x, from(8), 8));
        Due.names(Due.at(x), 2, 8);
        Due.is(2, x.about(true, 1));
        Due.is(1, Due.at(x, 1).about(true, 2));
        // And in a directory that is full.
        Due.directories(x, 3, 4, 5, 6);
        Due.is(VirtualFiles.OK, rename(x, from(6), 13));
        Due.names(Due.at(x), 2, 3, 4, 5, 8, 13);
        VirtualFiles y = Due.mounted(NODES);
        Due.file(y, 3, 1);
        Due.is(VirtualFiles.OK, rename(y, from(1), HERE, 1));
        Due.names(Due.at(y), 1);
        Due.is(3, Due.at(y, 1).about(true, 1));
        Due.is(VirtualFiles.OK, rename(y, from(1), 8));
        Due.names(Due.at(y), 8);
    }

    private static void ontoTheSameFile() {
        VirtualFiles x = Due.mounted(NODES);
        Due.directories(x, 1);
        Due.file(x, 3, 2);
        Due.is(VirtualFiles.OK, Due.and(Due.at(x, 3), 2).entry());
        Due.is(VirtualFiles.OK, Due.and(Due.at(x, 1, 2), 2).entry());
        Due.is(VirtualFiles.OK, rename(x, from(2), 3));
        Due.is(VirtualFiles.OK, rename(x, from(2), 1, 2));
        Due.is(VirtualFiles.OK, rename(x, from(1, 2), 3));
        Due.names(Due.at(x), 1, 2, 3);
        Due.names(Due.at(x, 1), 2);
        Due.is(3, Due.at(x, 2).about(true, 2));
        Due.is(VirtualFiles.OK, rename(x, from(2), 1, 4));
        Due.names(Due.at(x), 1, 3);
        Due.names(Due.at(x, 1), 2, 4);
        Due.is(3, Due.at(x, 3).about(true, 2));
    }

    // Promise 22: "the entry goes first"
    private static void ontoFiles() {
        for (int format = TABLE; format <= LOG; format++) {
            VirtualFiles x = Due.mounted(format);
            Due.directories(x, 1);
            Due.file(x, 9, 1, 2);
            Due.file(x, 2, 3);
            x.sync(0);
            Due.is(26, x.free(0));
            Due.is(VirtualFiles.OK, rename(x, from(3), 1, 2));
            Due.names(Due.at(x), 1);
            Due.names(Due.at(x, 1), 2);
            Due.is(2, Due.at(x, 1, 2).about(true, 1));
            Due.is(1, x.about(true, 2));
            Due.is(format == LOG ? 3 : 0, x.sync(0));
            Due.is(29, x.free(0));
        }
        VirtualFiles x = Due.mounted(TABLE);
        Due.file(x, 1, 1);
        Due.file(x, 2, 2);
        Due.is(VirtualFiles.OK, rename(x, from(1), 9));
        Due.names(Due.at(x), 9);
        Due.is(1, Due.at(x, 2).about(true, 1));
        // Of a file with several entries only the one goes.
        VirtualFiles y = Due.mounted(NODES);
        Due.file(y, 1, 1);
        Due.file(y, 2, 2);
        Due.is(VirtualFiles.OK, Due.and(Due.at(y, 3), 1).entry());
        Due.is(VirtualFiles.OK, rename(y, from(2), 1));
        Due.is(2, Due.at(y, 1).about(true, 1));
        Due.is(1, Due.at(y, 3).about(true, 2));
        // A full directory takes an entry in the place of another.
        Due.directories(y, 2, 4, 5, 6);
        Due.file(y, 4, 2, 1);
        Due.is(VirtualFiles.OK, rename(y, from(2, 1), 3));
        Due.is(4, Due.at(y, 3).about(true, 1));
        Due.names(Due.at(y), 1, 2, 3, 4, 5, 6);
        Due.names(Due.at(y, 2));
    }

    private static void ontoOpenFiles() {
        VirtualFiles x = Due.mounted(LOG);
        Due.file(x, 4, 1);
        Due.file(x, 1, 2);
        x.sync(0);
        Due.is(0, Due.at(x, 1).open(0));
        Due.is(1, Due.at(x, 2).open(3));
        Due.is(VirtualFiles.OK, rename(x, from(2), 1));
        Due.is(0, x.sync(0));
        Due.is(29, x.free(0));
        Due.is(1, x.read(0));
        Due.is(VirtualFiles.OK, x.write(1, 7));
        Due.is(2, Due.at(x, 1).about(true, 1));
        Due.is(VirtualFiles.OK, x.close(0));
        Due.is(2, x.sync(0));
        Due.is(30, x.free(0));
    }

    private static void ontoDirectories() {
        VirtualFiles x = Due.mounted(TABLE);
        Due.directories(x, 1, 2, 3);
        Due.is(VirtualFiles.OK, Due.at(x, 1, 4).directory());
        Due.is(VirtualFiles.NOTEMPTY, rename(x, from(2), 1));
        Due.is(VirtualFiles.NOTEMPTY, rename(x, from(1, 4), 8));
        Due.is(VirtualFiles.OK, Due.at(x, 2).enter());
        Due.is(VirtualFiles.BUSY, rename(x, from(1), 2));
        Due.is(VirtualFiles.OK, Due.at(x, 2, 5).directory());
        Due.is(VirtualFiles.BUSY, rename(x, from(1), 2));
        Due.is(VirtualFiles.OK, Due.at(x, 3).mount(1));
        Due.is(VirtualFiles.BUSY, rename(x, from(1), 3));
        Due.is(VirtualFiles.OK, x.unmount(1));
        Due.is(VirtualFiles.OK, rename(x, from(1), 3));
        Due.names(Due.at(x), 2, 3);
        Due.names(Due.at(x, 3), 4);
        // The current directory itself may be moved onto another one.
        Due.is(VirtualFiles.OK, Due.at(x, 3, 6).directory());
        Due.is(VirtualFiles.OK, rename(x, from(2), 3, 13));
        Due.names(Due.at(x), 3);
        Due.names(Due.at(x, 3), 4, 13);
        Due.names(Due.at(x, HERE), 5);
        Due.names(Due.at(x, HERE, UP), 4, 13);
        Due.is(27, x.free(0));
    }

    // Promise 22: "else if one of both is a directory and the other is not"
    private static void ontoAnotherKind() {
        VirtualFiles x = Due.mounted(NODES);
        Due.directories(x, 1);
        Due.file(x, 1, 2);
        Due.is(VirtualFiles.OK, Due.and(Due.at(x, 3), 1).link());
        Due.is(VirtualFiles.ISDIR, rename(x, from(2), 1));
        Due.is(VirtualFiles.ISDIR, rename(x, from(3), 1));
        Due.is(VirtualFiles.NOTDIR, rename(x, from(1), 2));
        Due.is(VirtualFiles.NOTDIR, rename(x, from(1), 3));
        Due.is(VirtualFiles.OK, Due.at(x, 1).enter());
        Due.is(VirtualFiles.ISDIR, rename(x, from(2), 1));
        Due.is(VirtualFiles.OK, Due.at(x, 1, 4).directory());
        Due.is(VirtualFiles.ISDIR, rename(x, from(2), 1));
        Due.is(VirtualFiles.OK, Due.at(x, 1).mount(1));
        Due.is(VirtualFiles.ISDIR, rename(x, from(2), 1));
        Due.is(VirtualFiles.OK, rename(x, from(2), 3));
        Due.names(Due.at(x), 1, 3);
    }

    private static void intoAFullDirectory() {
        for (int format = TABLE; format <= LOG; format++) {
            VirtualFiles x = Due.mounted(format);
            Due.directories(x, 1, 2, 3, 4, 5, 6);
            Due.file(x, 2, 1, 1);
            Due.is(VirtualFiles.FULL, rename(x, from(1, 1), 7));
            Due.names(Due.at(x, 1), 1);
            Due.is(VirtualFiles.OK, rename(x, from(6), 7));
            Due.names(Due.at(x), 1, 2, 3, 4, 5, 7);
            Due.is(VirtualFiles.OK, rename(x, from(7), 1, 7));
            Due.is(VirtualFiles.OK, rename(x, from(1, 1), 7));
            Due.names(Due.at(x), 1, 2, 3, 4, 5, 7);
            Due.names(Due.at(x, 1), 7);
        }
    }

    /** A TABLE disk whose files in the directory 1 and, from 2 on, at the top leave so many blocks. */
    private static VirtualFiles tight(int inFirst, int atTheTop, int left) {
        VirtualFiles x = Due.mounted(TABLE);
        Due.directories(x, 1);
        for (int n = 1; n <= inFirst; n++) {
            Due.file(x, 0, 1, n);
        }
        for (int n = 2; n < 2 + atTheTop; n++) {
            Due.file(x, 0, n);
        }
        int toTake = x.free(0) - left;
        for (int n = 0; n < inFirst + atTheTop && toTake > 0; n++) {
            int[] path = n < inFirst ? from(1, n + 1) : from(n - inFirst + 2);
            int h = Due.at(x, path).open(1);
            int blocks = Math.min(toTake, 5);
            Due.is(VirtualFiles.OK, x.resize(h, 4 * blocks));
            Due.is(VirtualFiles.OK, x.close(h));
            toTake -= blocks;
        }
        Due.is(left, x.free(0));
        return x;
    }

    private static void withoutABlock() {
        // Directory 1 would need a second block, and the top gives none.
        VirtualFiles x = tight(4, 3, 0);
        Due.is(VirtualFiles.FULL, rename(x, from(2), 1, 5));
        Due.names(Due.at(x), 1, 2, 3, 4);
        Due.names(Due.at(x, 1), 1, 2, 3, 4);
        Due.is(VirtualFiles.OK, rename(x, from(2), 1, 1));
        Due.names(Due.at(x), 1, 3, 4);
        Due.is(VirtualFiles.OK, rename(x, from(1, 1), 1, 7));
        Due.is(VirtualFiles.OK, rename(x, from(1, 7), 2));
        // With one block left it is taken.
        VirtualFiles y = tight(4, 3, 1);
        Due.is(VirtualFiles.OK, rename(y, from(2), 1, 5));
        Due.is(0, y.free(0));
        Due.is(VirtualFiles.OK, rename(y, from(1, 5), 1, 6));
        Due.is(VirtualFiles.OK, rename(y, from(1, 6), 2));
        Due.is(1, y.free(0));
        // The top gives the block that directory 1 needs.
        VirtualFiles z = tight(4, 4, 0);
        Due.is(VirtualFiles.OK, rename(z, from(2), 1, 5));
        Due.is(0, z.free(0));
        Due.is(1, Due.at(z).about(true, 3));
        Due.is(2, Due.at(z, 1).about(true, 3));
        Due.is(VirtualFiles.OK, rename(z, from(1, 5), 2));
        Due.is(0, z.free(0));
    }
}
