import java.util.Arrays;

/** The terms hold for each disk by itself: what a disk below the top has and takes does not depend on the top. */
public final class LowerDisksTest implements Words {
    /** The first step to the root of disk 1: HERE, or the name of the directory on which it is mounted. */
    private static int base;

    public static void main(String[] args) {
        for (int step = HERE; step <= 1; step++) {
            base = step;
            for (int top = TABLE; top <= LOG; top++) {
                for (int format = TABLE; format <= LOG; format++) {
                    eachDiskByItself(top, format);
                }
            }
        }
        copiesBelow();
        Due.end();
    }

    private static void eachDiskByItself(int top, int format) {
        equalNames(top, format);
        linksAndFurtherEntries(top, format);
        blocksOfDirectories(top, format);
        blocksOfFiles(top, format);
        deadBlocks(top, format);
        nothingFreeBelow(top, format);
        oneBlockFreeBelow(top, format);
        partNotWritten(top, format);
        nothingFreeAtTheTop(top, format);
        entriesThatGiveABlock(top, format);
        objectsOfEachDisk(top, format);
    }

    /** Disk 0 at the top, disk 1 on its directory 1; the current directory is the root of the disk that base tells. */
    private static VirtualFiles lower(int top, int format) {
        VirtualFiles x = Due.mounted(top);
        Due.directories(x, 1);
        Due.is(OK, x.make(1, format));
        Due.is(OK, Due.at(x, 1).mount(1));
        if (base == HERE) {
            Due.is(OK, x.enter());
        }
        return x;
    }

    /** Likewise, with so many blocks free on disk 1: four entries in its directory 1, three in its root, no block dead. */
    private static VirtualFiles crowdedBelow(int top, int format, int left) {
        VirtualFiles x = lower(top, format);
        Due.is(OK, Due.at(x, base, 1).directory());
        for (int n = 1; n <= 4; n++) {
            Blocks.take(x, 1, left, base, 1, n);
        }
        Blocks.take(x, 1, left, base, 2);
        Blocks.take(x, 1, left, base, 3);
        Due.is(left, x.free(1));
        Due.is(30, x.free(0));
        return x;
    }

    /** The empty disk 1 below a disk 0 without a free block. */
    private static VirtualFiles crowdedTop(int top, int format) {
        VirtualFiles x = lower(top, format);
        Due.directories(x, 2);
        for (int n = 1; n <= 4; n++) {
            Blocks.take(x, 0, 0, 2, n);
        }
        Blocks.take(x, 0, 0, 3);
        Blocks.take(x, 0, 0, 4);
        Due.is(0, x.free(0));
        Due.is(31, x.free(1));
        return x;
    }

    // "On a TABLE disk n and n + 7 (n 1..7) are EQUAL names, else only the same ones are."
    private static void equalNames(int top, int format) {
        VirtualFiles x = lower(top, format);
        Due.is(OK, Due.at(x, base, 2).directory());
        Due.is(format == TABLE ? EXISTS : OK, Due.at(x, base, 9).directory());
        Due.is(top == TABLE ? EXISTS : OK, Due.at(x, 8).directory());
        Due.is(format == TABLE ? 1 : 2, Due.at(x, base).about(true, 1));
        Due.is(top == TABLE ? 1 : 2, Due.at(x, base, UP).about(true, 1));
    }

    // "A LINK (not on TABLE)", "a file on a NODES disk may have several"
    private static void linksAndFurtherEntries(int top, int format) {
        VirtualFiles x = lower(top, format);
        Due.file(x, 1, base, 1);
        Due.is(format == TABLE ? UNSUPPORTED : OK, Due.and(Due.at(x, base, 2), base, 1).link());
        Due.is(format == NODES ? OK : UNSUPPORTED, Due.and(Due.at(x, base, 3), base, 1).entry());
        Due.file(x, 1, 2);
        Due.is(top == TABLE ? UNSUPPORTED : OK, Due.and(Due.at(x, 3), 2).link());
        Due.is(top == NODES ? OK : UNSUPPORTED, Due.and(Due.at(x, 4), 2).entry());
    }

    private static void blocksOfDirectories(int top, int format) {
        VirtualFiles x = lower(top, format);
        for (int n = 1; n <= 6; n++) {
            Due.file(x, 0, base, n);
            int blocks = format == TABLE && n > 4 ? 2 : 1;
            Due.is(blocks, Due.at(x, base).about(true, 3));
            Due.is(32 - blocks, x.free(1));
            Due.is(30, x.free(0));
        }
    }

    private static void blocksOfFiles(int top, int format) {
        VirtualFiles x = lower(top, format);
        Due.is(0, Due.at(x, base, 1).open(1));
        Due.is(OK, x.seek(0, 16));
        Due.is(OK, x.write(0, 1));
        Due.is(format == TABLE ? 5 : 1, x.about(true, 3));
        Due.is(format == TABLE ? 26 : 30, x.free(1));
        Due.is(OK, x.resize(0, 13));
        Due.is(format == TABLE ? 4 : 0, x.about(true, 3));
        Due.is(format == TABLE ? 27 : format == NODES ? 31 : 30, x.free(1));
        Due.is(30, x.free(0));
    }

    // "On LOG there are DEAD blocks as well"
    private static void deadBlocks(int top, int format) {
        VirtualFiles x = lower(top, format);
        int isLog = format == LOG ? 1 : 0;
        Due.is(0, Due.at(x, base, 1).open(3));
        Due.is(OK, x.write(0, 1));
        Due.is(30, x.free(1));
        Due.is(OK, x.write(0, 2));
        Due.is(30 - isLog, x.free(1));
        Due.is(0, x.sync(0));
        Due.is(isLog, x.sync(1));
        Due.is(OK, x.remove());
        Due.is(0, x.sync(1));
        Due.is(OK, x.close(0));
        Due.is(31 - isLog, x.free(1));
        Due.is(0, x.sync(0));
        Due.is(isLog, x.sync(1));
        Due.is(30, x.free(0));
    }

    private static void nothingFreeBelow(int top, int format) {
        int fullOnTable = format == TABLE ? FULL : OK;
        VirtualFiles x = crowdedBelow(top, format, 0);
        Due.is(FULL, Due.at(x, base, 4).directory());
        Due.is(fullOnTable, Due.and(Due.at(x, base, 2), base, 1, 5).rename());
        VirtualFiles y = crowdedBelow(top, format, 0);
        Due.is(format == TABLE ? FULL : 0, Due.at(y, base, 1, 5).open(1));
        VirtualFiles z = crowdedBelow(top, format, 0);
        Due.is(0, Due.at(z, base, 4).open(1));
        Due.is(FULL, z.write(0, 1));
        Due.is(fullOnTable, z.resize(0, 1));
        Due.is(1, Due.at(z, base, 2).open(1));
        Due.is(format == LOG ? FULL : OK, z.write(1, 1));
        // The top goes on as if nothing were below.
        Due.file(z, 20, 2);
        Due.is(OK, Due.at(z, 3).directory());
    }

    private static void oneBlockFreeBelow(int top, int format) {
        VirtualFiles x = crowdedBelow(top, format, 1);
        Due.is(OK, Due.at(x, base, 4).directory());
        Due.is(0, x.free(1));
        VirtualFiles y = crowdedBelow(top, format, 1);
        Due.is(OK, Due.and(Due.at(y, base, 2), base, 1, 5).rename());
        Due.is(format == TABLE ? 0 : 1, y.free(1));
        VirtualFiles z = crowdedBelow(top, format, 1);
        Due.is(0, Due.at(z, base, 4).open(1));
        Due.is(format == TABLE ? FULL : OK, z.resize(0, 5));
        Due.is(OK, z.write(0, 1));
        Due.is(0, z.free(1));
    }

    // Promise 19: "with 0 (which is not written; on TABLE blocks are taken)"
    private static void partNotWritten(int top, int format) {
        VirtualFiles x = crowdedBelow(top, format, 1);
        Due.is(0, Due.at(x, base, 4).open(1));
        Due.is(OK, x.resize(0, 4));
        if (format != TABLE) {
            Due.is(OK, Due.at(x, base, 5).directory());
        }
        Due.is(0, x.free(1));
        Due.is(format == TABLE ? OK : FULL, x.write(0, 1));
    }

    private static void nothingFreeAtTheTop(int top, int format) {
        VirtualFiles x = crowdedTop(top, format);
        Due.is(OK, Due.at(x, base, 1).directory());
        Due.is(OK, Due.at(x, base, 2).directory());
        for (int n = 1; n <= 4; n++) {
            Due.file(x, n, base, 2, n);
        }
        Due.is(0, Due.at(x, base, 3).open(1));
        Due.is(OK, x.write(0, 1));
        Due.is(OK, x.seek(0, 0));
        Due.is(OK, x.write(0, 2));
        Due.is(OK, x.resize(0, 20));
        Due.is(OK, Due.and(Due.at(x, base, 3), base, 2, 5).rename());
        Due.is(format == TABLE ? 2 : 1, Due.at(x, base, 2).about(true, 3));
        Due.is(0, x.free(0));
        Due.is(FULL, Due.at(x, 5).directory());
        Due.is(top == TABLE ? FULL : OK, Due.and(Due.at(x, 3), 2, 5).rename());
    }

    // Promise 22: "needs a block that is not free (A's entry counts as gone)"
    private static void entriesThatGiveABlock(int top, int format) {
        VirtualFiles x = lower(top, format);
        Due.is(OK, Due.at(x, base, 1).directory());
        for (int n = 2; n <= 5; n++) {
            Due.file(x, 0, base, n);
        }
        for (int n = 1; n <= 4; n++) {
            Due.file(x, 0, base, 1, n);
        }
        for (int n = 2; n <= 5; n++) {
            Blocks.take(x, 1, 0, base, n);
        }
        for (int n = 1; n <= 4; n++) {
            Blocks.take(x, 1, 0, base, 1, n);
        }
        Due.is(0, x.free(1));
        Due.directories(x, 2, 3, 4, 5, 6);
        Due.is(OK, Due.and(Due.at(x, base, 2), base, 1, 5).rename());
        Due.is(OK, Due.and(Due.at(x, base, 1, 5), base, 2).rename());
        // From five entries to six, and back: the root keeps its two blocks, and directory 1 needs no second one.
        Due.is(OK, Due.and(Due.at(x, base, 1, 1), base, 6).rename());
        Due.is(OK, Due.and(Due.at(x, base, 6), base, 1, 1).rename());
        Due.is(0, x.free(1));
    }

    // "at most 10 OBJECTS"
    private static void objectsOfEachDisk(int top, int format) {
        VirtualFiles x = lower(top, format);
        Due.is(OK, Due.at(x, base, 1).directory());
        for (int n = 1; n <= 6; n++) {
            Due.file(x, 0, base, 1, n);
        }
        Due.file(x, 0, base, 2);
        Due.file(x, 0, base, 3);
        Due.is(FULL, Due.at(x, base, 4).directory());
        Due.is(FULL, Due.at(x, base, 4).open(1));
        Due.directories(x, 2, 3, 4, 5);
        for (int n = 1; n <= 4; n++) {
            Due.is(OK, Due.at(x, 2, n).directory());
        }
        Due.is(FULL, Due.at(x, 2, 5).directory());
        Due.is(OK, Due.at(x, base, 3).remove());
        Due.is(OK, Due.at(x, base, 4).directory());
        Due.is(FULL, Due.at(x, 2, 5).directory());
    }

    /** Disk 2, to be written, on directory 2 of disk 1, a read-only copy on directory 1 of disk 0. */
    private static void copiesBelow() {
        for (int format = TABLE; format <= LOG; format++) {
            VirtualFiles x = Due.mounted(format);
            Due.directories(x, 1, 2);
            Due.file(x, 3, 3);
            Due.is(OK, x.pack(0, 1));
            Due.is(OK, Due.at(x, 1).mount(1));
            Due.is(OK, Due.at(x, 1, 2).mount(2));
            for (int[] root : new int[][] {{HERE}, {1, 2}}) {
                mayBeWritten(x, root);
            }
            Due.is(OK, Due.at(x, 1).enter());
            Due.is(READONLY, Due.at(x, HERE, 4).directory());
            Due.is(READONLY, Due.at(x, HERE, 4).link());
            Due.is(READONLY, Due.at(x, HERE, 4).open(1));
            Due.is(READONLY, Due.at(x, HERE, 3).open(2));
            Due.is(READONLY, Due.at(x, HERE, 3).remove());
            Due.is(READONLY, Due.at(x, HERE, 1).prune());
            Due.is(READONLY, Due.and(Due.at(x, HERE, 3), HERE, 4).rename());
            Due.is(READONLY, Due.and(Due.at(x, HERE, 4), HERE, 3).entry());
            Due.is(0, Due.at(x, HERE, 3).open(0));
            mayBeWritten(x, 1, 2);
        }
    }

    private static void mayBeWritten(VirtualFiles x, int... root) {
        int[] path = Arrays.copyOf(root, root.length + 1);
        path[root.length] = 5;
        Due.is(OK, Due.at(x, path).directory());
        Due.is(OK, x.prune());
        int h = x.open(1);
        Due.is(OK, x.write(h, 1));
        Due.is(OK, x.close(h));
        path[root.length] = 6;
        for (int s : path) {
            Due.yes(x.step(true, s));
        }
        Due.is(OK, x.rename());
        Due.is(OK, Due.at(x, path).remove());
    }
}
