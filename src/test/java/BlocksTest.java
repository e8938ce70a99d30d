
/** "Terms", on the blocks taken, the dead blocks and FULL. */
public final class BlocksTest implements Words {
    public static void main(String[] args) {
        emptyDisksHaveThirtyOne();
        directoriesOnTable();
        directoriesOnNodesAndLog();
        filesOnTable();
        oneBlockForEachPartWritten();
        twoPartsWritten();
        zeroBetweenIsNotWritten();
        partsOfAShorterFile();
        partsOfAFileMadeShorterAndLongerAgain();
        partsOfAFileBegunAnew();
        linksTakeNone();
        deadForEachIntWrittenAgain();
        deadForEachPartOfAShorterFile();
        deadForTheWrittenPartsAlone();
        deadForAFileThatIsGone();
        deadNotForDirectoriesAndLinks();
        deadNotOnTableAndNodes();
        deadUntilSync();
        directoryTakesTheLastBlock();
        directoryWithoutABlock();
        fifthEntryOnTableTakesABlock();
        fifthEntryOnTableWithoutABlock();
        renameOntoAnEntryGivesABlock();
        noBlockIsNeeded();
        writeTakesTheLastBlock();
        writeFarBehindTheEndOnTable();
        writeIntoAPartThatTakesABlock();
        writeOnLogAlwaysTakesAFurtherBlock();
        deadBlocksFillADisk();
        resizeTakesTheLastBlock();
        Due.end();
    }

    private static void write(VirtualFiles x, int h, int position, int v) {
        Due.is(OK, x.seek(h, position));
        Due.is(OK, x.write(h, v));
    }

    /** Handle 0 is the file 1 of twenty ints, each of its five parts written once, no block dead. */
    private static VirtualFiles fiveParts(int format) {
        VirtualFiles x = Due.mounted(format);
        Due.is(0, Due.at(x, 1).open(1));
        for (int i = 1; i <= 20; i++) {
            Due.is(OK, x.write(0, i));
        }
        x.sync(0);
        Due.is(26, x.free(0));
        return x;
    }

    // "A disk has 32 BLOCKS", "a directory takes 1"
    private static void emptyDisksHaveThirtyOne() {
        VirtualFiles x = new VirtualFiles();
        for (int d = 0; d < 4; d++) {
            for (int format = TABLE; format <= LOG; format++) {
                Due.is(OK, x.make(d, format));
                Due.is(31, x.free(d));
            }
        }
    }

    // "on TABLE a directory takes 1, with more than 4 entries 2"
    private static void directoriesOnTable() {
        int[] blocks = {1, 1, 1, 1, 1, 2, 2};
        for (int entries = 0; entries <= 6; entries++) {
            VirtualFiles x = Due.mounted(TABLE);
            for (int n = 1; n <= entries; n++) {
                Due.file(x, 0, n);
            }
            Due.is(blocks[entries], Due.at(x).about(true, 3));
            Due.is(32 - blocks[entries], x.free(0));
            VirtualFiles y = Due.mounted(TABLE);
            Due.directories(y, 7);
            for (int n = 1; n <= entries; n++) {
                Due.is(OK, Due.at(y, 7, n).directory());
            }
            Due.is(blocks[entries], Due.at(y, 7).about(true, 3));
            Due.is(31 - blocks[entries] - entries, y.free(0));
            for (int n = entries; n >= 1; n--) {
                Due.is(OK, Due.at(y, 7, n).prune());
                Due.is(blocks[n - 1], Due.at(y, 7).about(true, 3));
            }
            Due.is(30, y.free(0));
        }
    }

    // "On NODES and LOG a directory takes 1"
    private static void directoriesOnNodesAndLog() {
        for (int format = NODES; format <= LOG; format++) {
            VirtualFiles x = Due.mounted(format);
            for (int n = 1; n <= 6; n++) {
                Due.file(x, 0, n);
                Due.is(1, Due.at(x).about(true, 3));
                Due.is(31, x.free(0));
            }
        }
    }

    // "and a file a quarter of its size, rounded up"
    private static void filesOnTable() {
        int[] blocks = {0, 1, 1, 1, 1, 2, 2, 2, 2, 3, 3, 3, 3, 4, 4, 4, 4, 5, 5, 5, 5};
        for (int size = 0; size <= 20; size++) {
            VirtualFiles x = Due.mounted(TABLE);
            Due.is(0, Due.at(x, 1).open(1));
            Due.is(OK, x.resize(0, size));
            Due.is(blocks[size], x.about(true, 3));
            Due.is(31 - blocks[size], x.free(0));
            if (size > 0) {
                Due.is(1, Due.at(x, 2).open(1));
                write(x, 1, size - 1, 1);
                Due.is(blocks[size], x.about(true, 3));
                Due.is(31 - 2 * blocks[size], x.free(0));
            }
        }
    }

    // "a file 1 for each PART 4 b .. 4 b + 3 in which an int was written"
    private static void oneBlockForEachPartWritten() {
        for (int format = NODES; format <= LOG; format++) {
            for (int p = 0; p < 20; p++) {
                VirtualFiles x = Due.mounted(format);
                Due.is(0, Due.at(x, 1).open(1));
                Due.is(0, x.about(true, 3));
                write(x, 0, p, 0);
                Due.is(1, x.about(true, 3));
                Due.is(30, x.free(0));
                Due.is(p + 1, x.about(true, 1));
                Due.is(0, x.sync(0));
            }
        }
    }

    private static void twoPartsWritten() {
        for (int format = NODES; format <= LOG; format++) {
            for (int p = 0; p < 20; p++) {
                for (int q = 0; q < 20; q++) {
                    VirtualFiles x = Due.mounted(format);
                    Due.is(0, Due.at(x, 1).open(1));
                    write(x, 0, p, 1);
                    write(x, 0, q, 2);
                    boolean samePart = p / 4 == q / 4;
                    Due.is(samePart ? 1 : 2, x.about(true, 3));
                    Due.is(samePart && format == LOG ? 1 : 0, x.sync(0));
                    Due.is(samePart ? 30 : 29, x.free(0));
                }
            }
        }
    }

    // Promise 19: "with 0 (which is not written"; promise 17: "what lies between the old end and it is 0"
    private static void zeroBetweenIsNotWritten() {
        for (int format = NODES; format <= LOG; format++) {
            VirtualFiles x = Due.mounted(format);
            Due.is(0, Due.at(x, 1).open(1));
            Due.is(OK, x.resize(0, 20));
            Due.is(0, x.about(true, 3));
            Due.is(31, x.free(0));
            write(x, 0, 9, 1);
            Due.is(1, x.about(true, 3));
            Due.is(0, x.sync(0));
            Due.is(1, Due.at(x, 2).open(1));
            write(x, 1, 19, 1);
            Due.is(1, x.about(true, 3));
            write(x, 1, 0, 1);
            Due.is(2, x.about(true, 3));
            Due.is(0, x.sync(0));
        }
    }

    // "since the file was last made not longer than 4 b"
    private static void partsOfAShorterFile() {
        for (int format = NODES; format <= LOG; format++) {
            for (int n = 0; n <= 20; n++) {
                VirtualFiles x = fiveParts(format);
                Due.is(OK, x.resize(0, n));
                int left = (n + 3) / 4;
                Due.is(left, x.about(true, 3));
                Due.is(format == LOG ? 5 - left : 0, x.sync(0));
                Due.is(31 - left, x.free(0));
            }
        }
    }

    private static void partsOfAFileMadeShorterAndLongerAgain() {
        for (int format = NODES; format <= LOG; format++) {
            for (int n = 0; n <= 20; n++) {
                VirtualFiles x = fiveParts(format);
                Due.is(OK, x.resize(0, n));
                Due.is(OK, x.resize(0, 20));
                x.sync(0);
                int left = (n + 3) / 4;
                Due.is(left, x.about(true, 3));
                for (int b = 0; b < 5; b++) {
                    write(x, 0, 4 * b + 3, 1);
                    Due.is(b < left ? left : b + 1, x.about(true, 3));
                }
                // Written again: dead for the parts that had stayed, none for the others.
                Due.is(format == LOG ? left : 0, x.sync(0));
                Due.is(26, x.free(0));
            }
        }
    }

    // "(or begun)", and promise 14: "2 write, its size becomes 0"
    private static void partsOfAFileBegunAnew() {
        for (int format = TABLE; format <= LOG; format++) {
            VirtualFiles x = fiveParts(format);
            Due.is(1, x.open(2));
            Due.is(0, x.about(true, 3));
            Due.is(format == LOG ? 5 : 0, x.sync(0));
            Due.is(OK, x.write(1, 1));
            Due.is(1, x.about(true, 3));
            Due.is(0, x.sync(0));
            Due.is(OK, x.remove());
            Due.is(2, x.open(1));
            Due.is(0, x.about(true, 3));
            Due.is(OK, x.write(2, 1));
            Due.is(1, x.about(true, 3));
            Due.is(29, x.free(0));
        }
    }

    // "Links take none."
    private static void linksTakeNone() {
        for (int format = NODES; format <= LOG; format++) {
            VirtualFiles x = Due.mounted(format);
            for (int n = 1; n <= 5; n++) {
                Due.is(OK, Due.and(Due.at(x, n), 1, 2, 3, 4, 5).link());
                Due.is(0, x.about(false, 3));
                Due.is(31, x.free(0));
            }
        }
    }

    // "one more whenever an int is written into a part that takes a block"
    private static void deadForEachIntWrittenAgain() {
        VirtualFiles x = Due.mounted(LOG);
        Due.is(0, Due.at(x, 1).open(1));
        for (int i = 1; i <= 20; i++) {
            Due.is(OK, x.write(0, i));
            int blocks = (i + 3) / 4;
            Due.is(blocks, x.about(true, 3));
            Due.is(31 - i, x.free(0));
        }
        Due.is(15, x.sync(0));
        // Another handle's write into it counts alike, and so does the same int again.
        Due.is(1, Due.at(x, 1).open(1));
        write(x, 1, 0, 1);
        write(x, 1, 0, 1);
        Due.is(2, x.sync(0));
        Due.is(26, x.free(0));
        // Of several files each has its own parts.
        Due.is(2, Due.at(x, 2).open(3));
        Due.is(OK, x.write(2, 1));
        Due.is(0, x.sync(0));
        Due.is(OK, x.write(2, 1));
        Due.is(1, x.sync(0));
    }

    // "and for each block that a file stops taking"
    private static void deadForEachPartOfAShorterFile() {
        VirtualFiles x = fiveParts(LOG);
        int[] sizes = {20, 17, 16, 15, 13, 12, 9, 8, 7, 5, 4, 1, 0};
        int[] dead = {0, 0, 1, 0, 0, 1, 0, 1, 0, 0, 1, 0, 1};
        for (int i = 0; i < sizes.length; i++) {
            int free = x.free(0);
            Due.is(OK, x.resize(0, sizes[i]));
            Due.is(free, x.free(0));
            Due.is(dead[i], x.sync(0));
        }
        Due.is(31, x.free(0));
    }

    private static void deadForTheWrittenPartsAlone() {
        for (int n = 0; n <= 20; n++) {
            VirtualFiles x = Due.mounted(LOG);
            Due.is(0, Due.at(x, 1).open(1));
            write(x, 0, 5, 1);
            write(x, 0, 18, 1);
            Due.is(OK, x.resize(0, n));
            Due.is(n <= 4 ? 2 : n <= 16 ? 1 : 0, x.sync(0));
            Due.is(n <= 4 ? 31 : n <= 16 ? 30 : 29, x.free(0));
        }
    }

    private static void deadForAFileThatIsGone() {
        VirtualFiles x = fiveParts(LOG);
        Due.is(OK, x.remove());
        Due.is(0, x.sync(0));
        Due.is(26, x.free(0));
        Due.is(OK, x.close(0));
        Due.is(26, x.free(0));
        Due.is(5, x.sync(0));
        Due.is(31, x.free(0));
        VirtualFiles y = fiveParts(LOG);
        Due.is(OK, y.close(0));
        Due.file(y, 1, 2);
        Due.is(OK, Due.and(Due.at(y, 2), 1).rename());
        Due.is(5, y.sync(0));
        Due.is(30, y.free(0));
        Due.is(OK, Due.at(y, 1).remove());
        Due.is(1, y.sync(0));
        // What was dead before stays dead beside it.
        VirtualFiles z = fiveParts(LOG);
        write(z, 0, 0, 1);
        Due.is(OK, z.close(0));
        Due.is(OK, z.remove());
        Due.is(25, z.free(0));
        Due.is(6, z.sync(0));
    }

    private static void deadNotForDirectoriesAndLinks() {
        VirtualFiles x = Due.mounted(LOG);
        Due.directories(x, 1, 2);
        Due.is(OK, Due.and(Due.at(x, 3), 1).link());
        Due.is(OK, Due.at(x, 1).prune());
        Due.is(OK, Due.at(x, 3).remove());
        Due.directories(x, 4);
        Due.is(OK, Due.and(Due.at(x, 4), 2).rename());
        Due.file(x, 0, 5);
        Due.is(OK, Due.at(x, 5).remove());
        Due.is(30, x.free(0));
        Due.is(0, x.sync(0));
    }

    private static void deadNotOnTableAndNodes() {
        for (int format = TABLE; format <= NODES; format++) {
            VirtualFiles x = fiveParts(format);
            write(x, 0, 0, 1);
            write(x, 0, 0, 1);
            Due.is(26, x.free(0));
            Due.is(OK, x.resize(0, 3));
            Due.is(30, x.free(0));
            Due.is(1, x.open(2));
            Due.is(31, x.free(0));
            Due.is(OK, x.write(1, 1));
            Due.is(OK, x.remove());
            Due.is(OK, x.close(0));
            Due.is(OK, x.close(1));
            Due.is(31, x.free(0));
            Due.is(0, x.sync(0));
        }
    }

    // "until sync"; promise 8: "Answers how many there were"
    private static void deadUntilSync() {
        for (int many = 0; many <= 26; many++) {
            VirtualFiles x = fiveParts(LOG);
            for (int i = 0; i < many; i++) {
                write(x, 0, i % 20, i);
            }
            Due.is(26 - many, x.free(0));
            Due.is(many, x.sync(0));
            Due.is(0, x.sync(0));
            Due.is(26, x.free(0));
        }
        // Not those of another disk.
        VirtualFiles x = fiveParts(LOG);
        write(x, 0, 1, 1);
        for (int d = 1; d < 4; d++) {
            Due.is(0, x.sync(d));
        }
        Due.is(25, x.free(0));
        Due.is(1, x.sync(0));
    }

    // "more blocks (with the dead ones) than 32": 32 may be taken
    private static void directoryTakesTheLastBlock() {
        for (int format = TABLE; format <= LOG; format++) {
            VirtualFiles x = Due.at(Blocks.left(format, 1), 3);
            Due.is(OK, x.directory());
            Due.is(0, x.free(0));
            Due.is(FULL, Due.at(x, 3, 1).directory());
            Due.is(OK, Due.at(x, 3).prune());
            Due.is(1, x.free(0));
        }
    }

    private static void directoryWithoutABlock() {
        for (int format = TABLE; format <= LOG; format++) {
            int f = format;
            Refusal.is(FULL, () -> Due.at(Blocks.left(f, 0), 3), VirtualFiles::directory);
        }
        VirtualFiles x = Due.at(withDead(0), 3);
        Due.is(FULL, x.directory());
        Due.is(OK, withDeadAt(1, 3).directory());
        Refusal.is(FULL, () -> withDeadAt(0, 3), VirtualFiles::directory);
    }

    /** A LOG disk with so many free blocks: its root and the file 1 take two, the others are dead. */
    private static VirtualFiles withDead(int left) {
        VirtualFiles x = Due.mounted(LOG);
        Due.is(0, Due.at(x, 1).open(1));
        for (int i = left; i < 31; i++) {
            write(x, 0, 0, i);
        }
        Due.is(left, x.free(0));
        return x;
    }

    private static VirtualFiles withDeadAt(int left, int name) {
        return Due.at(withDead(left), name);
    }

    /** A TABLE disk with so many free blocks, and four entries in its root: 1 to 4, of which 1 is a directory. */
    private static VirtualFiles fourEntries(int left) {
        VirtualFiles x = Due.mounted(TABLE);
        Due.directories(x, 1);
        for (int[] path : new int[][] {{1, 1}, {1, 2}, {1, 3}, {2}, {3}, {4}}) {
            Blocks.take(x, 0, left, path);
        }
        Due.is(4, Due.at(x).about(true, 1));
        Due.is(left, x.free(0));
        return x;
    }

    private static void fifthEntryOnTableTakesABlock() {
        VirtualFiles x = fourEntries(2);
        Due.is(OK, Due.at(x, 5).directory());
        Due.is(0, x.free(0));
        VirtualFiles y = fourEntries(1);
        Due.is(0, Due.at(y, 5).open(1));
        Due.is(0, y.free(0));
        Due.is(2, Due.at(y).about(true, 3));
        // The sixth takes none.
        Due.is(1, Due.at(y, 6).open(1));
        Due.is(2, Due.at(y).about(true, 3));
        VirtualFiles z = fourEntries(1);
        Due.is(OK, Due.and(Due.at(z, 1, 3), 5).rename());
        Due.is(0, z.free(0));
    }

    private static void fifthEntryOnTableWithoutABlock() {
        Refusal.is(FULL, () -> Due.at(fourEntries(0), 5), VirtualFiles::directory);
        Refusal.is(FULL, () -> Due.at(fourEntries(1), 5), VirtualFiles::directory);
        Refusal.is(FULL, () -> Due.at(fourEntries(0), 5), x -> x.open(1));
        Refusal.is(FULL, () -> Due.at(fourEntries(0), 5), x -> x.open(3));
        Refusal.is(FULL, () -> Due.and(Due.at(fourEntries(0), 1, 3), 5), VirtualFiles::rename);
    }

    // Promise 22: "the entry goes first"
    private static void renameOntoAnEntryGivesABlock() {
        VirtualFiles x = Due.mounted(TABLE);
        Due.directories(x, 1, 2);
        for (int n = 3; n <= 5; n++) {
            Due.file(x, 4, n);
        }
        Due.is(2, Due.at(x).about(true, 3));
        Due.is(25, x.free(0));
        Due.is(OK, Due.and(Due.at(x, 3), 4).rename());
        Due.is(1, Due.at(x).about(true, 3));
        Due.is(27, x.free(0));
        Due.is(OK, Due.and(Due.at(x, 1), 2).rename());
        Due.is(28, x.free(0));
        Due.names(Due.at(x), 2, 4, 5);
    }

    // What needs no block is not refused for want of one.
    private static void noBlockIsNeeded() {
        for (int format = TABLE; format <= LOG; format++) {
            VirtualFiles x = Blocks.left(format, 0);
            Due.is(0, Due.at(x, 3).open(1));
            Due.is(format == TABLE ? UNSUPPORTED : OK, Due.and(Due.at(x, 4), 1).link());
            Due.is(format == NODES ? OK : UNSUPPORTED, Due.and(Due.at(x, 5), 3).entry());
            Due.is(OK, Due.and(Due.at(x, 3), 6).rename());
            Due.is(1, Due.at(x, 6).open(3));
            Due.is(2, Due.at(x, 6).open(2));
            Due.is(OK, x.resize(2, 0));
            Due.is(0, x.free(0));
            Due.is(OK, Due.at(x, 1).enter());
            Due.is(OK, Due.at(x, HERE).mount(1));
            Due.is(OK, x.pack(1, 2));
        }
    }

    private static void writeTakesTheLastBlock() {
        for (int format = TABLE; format <= LOG; format++) {
            for (int how = 1; how <= 3; how++) {
                VirtualFiles x = Blocks.open(format, how, 1);
                Due.is(OK, x.write(0, 1));
                Due.is(0, x.free(0));
                Due.is(format == LOG ? FULL : OK, x.write(0, 2));
                Due.is(format == LOG ? 1 : 2, x.about(true, 1));
            }
        }
    }

    private static void writeFarBehindTheEndOnTable() {
        for (int left = 0; left < 5; left++) {
            int blocks = left;
            for (int p = 0; p < 20; p++) {
                VirtualFiles x = Blocks.open(TABLE, 1, left);
                Due.is(OK, x.seek(0, p));
                boolean fits = p / 4 + 1 <= left;
                Due.is(fits ? OK : FULL, x.write(0, 9));
                Due.is(fits ? p + 1 : 0, x.about(true, 1));
                Due.is(fits ? left - p / 4 - 1 : left, x.free(0));
            }
            Refusal.is(FULL, () -> soughtAt(blocks, 4 * blocks), x -> x.write(0, 9));
            Refusal.is(FULL, () -> soughtAt(blocks, 19), x -> x.write(0, 9));
        }
        // On NODES and LOG only the part of the int itself is taken.
        Due.is(OK, soughtIn(NODES, 1, 19).write(0, 9));
        Due.is(OK, soughtIn(LOG, 1, 19).write(0, 9));
    }

    private static VirtualFiles soughtAt(int left, int position) {
        return soughtIn(TABLE, left, position);
    }

    private static VirtualFiles soughtIn(int format, int left, int position) {
        VirtualFiles x = Blocks.open(format, 1, left);
        Due.is(OK, x.seek(0, position));
        return x;
    }

    /** No block is free; the empty file 3 of handle 0 has got five ints, and its position is this one. */
    private static VirtualFiles fiveIntsAt(int format, int position) {
        VirtualFiles x = soughtIn(format, format == LOG ? 1 : 2, 0);
        Due.is(OK, x.write(0, 1));
        if (format != LOG) {
            write(x, 0, 4, 5);
        }
        Due.is(OK, x.resize(0, 5));
        Due.is(OK, x.seek(0, position));
        Due.is(0, x.free(0));
        return x;
    }

    private static void writeIntoAPartThatTakesABlock() {
        for (int format = TABLE; format <= NODES; format++) {
            int f = format;
            for (int p = 0; p < 8; p++) {
                VirtualFiles x = fiveIntsAt(format, p);
                Due.is(OK, x.write(0, -p));
                Due.is(p < 5 ? 5 : p + 1, x.about(true, 1));
                Due.is(0, x.free(0));
            }
            Refusal.is(FULL, () -> fiveIntsAt(f, 8), x -> x.write(0, 9));
        }
    }

    // "(on LOG an int written always takes a further block)"
    private static void writeOnLogAlwaysTakesAFurtherBlock() {
        for (int p : new int[] {0, 1, 3, 4, 5, 8, 19}) {
            Refusal.is(FULL, () -> fiveIntsAt(LOG, p), x -> x.write(0, 9));
        }
        VirtualFiles x = fiveIntsAt(LOG, 0);
        Due.is(0, x.sync(0));
        Due.is(FULL, x.write(0, 9));
        Due.is(OK, Due.at(x, 1, 1).remove());
        Due.is(FULL, x.write(0, 9));
        Due.is(5, x.sync(0));
        Due.is(OK, x.write(0, 9));
    }

    private static void deadBlocksFillADisk() {
        VirtualFiles x = withDead(1);
        write(x, 0, 0, 1);
        Due.is(0, x.free(0));
        Due.is(FULL, x.write(0, 1));
        Due.is(1, x.about(true, 1));
        Due.is(1, x.about(true, 3));
        Refusal.is(FULL, () -> withDead(0), y -> y.write(0, 1));
        Due.is(30, x.sync(0));
        Due.is(OK, x.write(0, 1));
        // Making it shorter gives no block back before sync.
        VirtualFiles y = withDead(0);
        Due.is(OK, y.resize(0, 0));
        Due.is(0, y.free(0));
        Due.is(OK, y.seek(0, 0));
        Due.is(FULL, y.write(0, 1));
        Due.is(31, y.sync(0));
        Due.is(31, y.free(0));
    }

    // Promise 19: "on TABLE blocks are taken"
    private static void resizeTakesTheLastBlock() {
        for (int left = 0; left <= 5; left++) {
            for (int n = 0; n <= 20; n++) {
                VirtualFiles x = Blocks.open(TABLE, 1, left);
                boolean fits = (n + 3) / 4 <= left;
                Due.is(fits ? OK : FULL, x.resize(0, n));
                Due.is(fits ? n : 0, x.about(true, 1));
                Due.is(fits ? left - (n + 3) / 4 : left, x.free(0));
            }
        }
        for (int n = 0; n <= 20; n++) {
            VirtualFiles x = fiveIntsAt(TABLE, 0);
            Due.is(n <= 8 ? OK : FULL, x.resize(0, n));
            Due.is(OK, fiveIntsAt(NODES, 0).resize(0, n));
            Due.is(OK, fiveIntsAt(LOG, 0).resize(0, n));
        }
    }
}
