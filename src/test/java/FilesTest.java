/** Promises 14 to 19: open, close, read, write, seek, resize. */
public final class FilesTest {
    private static final int TABLE = 0, NODES = 1, LOG = 2, HERE = 0, UP = 15;

    public static void main(String[] args) {
        openTakesTheLeastHandle();
        openBeginsFiles();
        openBeginsNoFile();
        openAnew();
        openRefuses();
        openRefusesToBegin();
        openFollowsLinks();
        close();
        closeEndsWhatIsRemoved();
        read();
        handlesHaveTheirOwnPositions();
        readRefuses();
        write();
        writeAtTheEnd();
        writeBehindTheEnd();
        writeTakesBlocksOnTable();
        writeTakesBlocksOnNodes();
        writeTakesBlocksOnLog();
        writeRefuses();
        writeUntilFull();
        seek();
        resize();
        resizeBlocks();
        resizeRefuses();
        Due.end();
    }

    // Promise 14: "the least handle 0..4 that is free, at position 0"
    private static void openTakesTheLeastHandle() {
        VirtualFiles x = Due.mounted(NODES);
        for (int h = 0; h < 5; h++) {
            Due.is(h, Due.at(x, 1).open(h % 2 == 0 ? 1 : 0));
        }
        Due.is(VirtualFiles.BUSY, Due.at(x, 1).open(0));
        Due.is(VirtualFiles.OK, x.close(3));
        Due.is(VirtualFiles.OK, x.close(1));
        Due.is(1, x.open(0));
        Due.is(3, x.open(0));
        Due.is(VirtualFiles.BUSY, x.open(0));
        // A handle that is opened again begins at position 0.
        Due.is(VirtualFiles.OK, x.write(0, 7));
        Due.is(VirtualFiles.OK, x.seek(4, 1));
        Due.is(VirtualFiles.OK, x.close(4));
        Due.is(4, x.open(0));
        Due.is(7, x.read(4));
    }

    // Promise 14: "else an empty file with that name is made there"
    private static void openBeginsFiles() {
        for (int format = TABLE; format <= LOG; format++) {
            VirtualFiles x = Due.mounted(format);
            Due.directories(x, 1);
            Due.is(0, Due.at(x, 1, 2).open(1));
            Due.is(1, Due.at(x, HERE, 3).open(3));
            Due.is(2, Due.at(x, 1, UP, 4).open(1));
            Due.names(Due.at(x), 1, 3, 4);
            Due.is(2, Due.at(x, 1, 2).about(true, 0));
            Due.is(0, x.about(true, 1));
            Due.is(1, x.about(true, 2));
            Due.is(0, x.about(true, 3));
            Due.is(30, x.free(0));
            Due.is(0, x.read(0));
            Due.is(VirtualFiles.BAD, x.read(1));
            Due.is(3, Due.at(x, 3).open(3));
            Due.names(Due.at(x), 1, 3, 4);
        }
        VirtualFiles x = Due.mounted(TABLE);
        Due.file(x, 2, 1);
        Due.is(0, Due.at(x, 8).open(1));
        Due.is(1, x.read(0));
        Due.names(Due.at(x), 1);
        Due.is(1, Due.at(x, 9).open(1));
        Due.names(Due.at(x), 1, 9);
    }

    private static void openBeginsNoFile() {
        VirtualFiles x = Due.mounted(NODES);
        Due.is(VirtualFiles.NOENT, Due.at(x, 1).open(0));
        Due.is(VirtualFiles.NOENT, Due.at(x, 1).open(2));
        Due.is(VirtualFiles.NOENT, Due.at(x, 1, 2).open(1));
        Due.is(VirtualFiles.NOENT, Due.at(x, 1, UP).open(1));
        Due.is(VirtualFiles.OK, Due.and(Due.at(x, 3), 4).link());
        Due.is(VirtualFiles.NOENT, Due.at(x, 3).open(1));
        Due.is(VirtualFiles.NOENT, Due.at(x, 3).open(3));
        Due.is(VirtualFiles.NOENT, Due.at(x, 3, 1).open(1));
        Due.names(Due.at(x), 3);
    }

    // Promise 14: "2 write, its size becomes 0"
    private static void openAnew() {
        for (int format = TABLE; format <= LOG; format++) {
            VirtualFiles x = Due.mounted(format);
            Due.file(x, 6, 1);
            Due.is(0, Due.at(x, 1).open(1));
            Due.is(VirtualFiles.OK, x.seek(0, 4));
            Due.is(1, Due.at(x, 1).open(0));
            Due.is(6, Due.at(x, 1).about(true, 1));
            Due.is(2, Due.at(x, 1).open(2));
            Due.is(0, Due.at(x, 1).about(true, 1));
            Due.is(0, x.about(true, 3));
            Due.is(format == LOG ? 25 : 31, x.free(0));
            Due.is(format == LOG ? 6 : 0, x.sync(0));
            Due.is(0, x.read(0));
            // The position of the other handle has stayed.
            Due.is(VirtualFiles.OK, x.write(0, 9));
            Due.is(5, Due.at(x, 1).about(true, 1));
            for (int i = 0; i < 4; i++) {
                Due.is(0, x.read(1));
            }
            Due.is(9, x.read(1));
            Due.is(VirtualFiles.BAD, x.read(2));
            Due.is(3, Due.at(x, 1).open(3));
            Due.is(5, Due.at(x, 1).about(true, 1));
        }
    }

    private static void openRefuses() {
        VirtualFiles x = Due.mounted(NODES);
        Due.directories(x, 1);
        Due.file(x, 1, 2);
        Due.is(VirtualFiles.OK, Due.and(Due.at(x, 3), 1).link());
        Due.is(VirtualFiles.BAD, Due.at(x, 2).open(-1));
        Due.is(VirtualFiles.BAD, Due.at(x, 2).open(4));
        Due.is(VirtualFiles.BAD, Due.at(x, 9).open(4));
        Due.is(VirtualFiles.BAD, Due.at(x, 9).open(Integer.MIN_VALUE));
        for (int how = 0; how <= 3; how++) {
            Due.is(VirtualFiles.ISDIR, Due.at(x, 1).open(how));
            Due.is(VirtualFiles.ISDIR, Due.at(x, 3).open(how));
            Due.is(VirtualFiles.ISDIR, Due.at(x).open(how));
            Due.is(VirtualFiles.ISDIR, Due.at(x, HERE).open(how));
            Due.is(VirtualFiles.NOTDIR, Due.at(x, 2, 1).open(how));
            Due.is(VirtualFiles.NOTDIR, Due.at(x, 2, UP).open(how));
        }
        for (int h = 0; h < 5; h++) {
            Due.is(h, Due.at(x, 2).open(0));
        }
        Due.is(VirtualFiles.BUSY, Due.at(x, 2).open(2));
        Due.is(1, Due.at(x, 2).about(true, 1));
        Due.is(VirtualFiles.ISDIR, Due.at(x, 1).open(0));
        Due.is(VirtualFiles.NOENT, Due.at(x, 9).open(0));
        Due.is(VirtualFiles.BUSY, Due.at(x, 9).open(1));
        Due.is(VirtualFiles.NOENT, Due.at(x, 9).about(true, 0));
    }

    private static void openRefusesToBegin() {
        VirtualFiles x = Due.mounted(NODES);
        Due.directories(x, 1, 2, 3, 4, 5);
        Due.is(VirtualFiles.OK, x.pack(0, 1));
        Due.is(VirtualFiles.OK, Due.at(x, 1).mount(1));
        for (int h = 0; h < 4; h++) {
            Due.is(h, Due.at(x, 6).open(1));
        }
        Due.is(VirtualFiles.FULL, Due.at(x, 7).open(1));
        Due.is(VirtualFiles.FULL, Due.at(x, 7).open(3));
        Due.is(VirtualFiles.NOENT, Due.at(x, 7).open(0));
        Due.is(4, Due.at(x, 2, 1).open(3));
        Due.is(VirtualFiles.BUSY, Due.at(x, 7).open(1));
        Due.is(VirtualFiles.READONLY, Due.at(x, 1, 7).open(3));
        Due.is(VirtualFiles.READONLY, Due.at(x, 1, 7).open(1));
        Due.is(6, Due.at(x).about(true, 1));
    }

    // Promise 14: "Opens file A (followed)"
    private static void openFollowsLinks() {
        VirtualFiles x = Due.mounted(NODES);
        Due.file(x, 3, 1);
        Due.is(VirtualFiles.OK, Due.and(Due.at(x, 2), 1).link());
        Due.is(VirtualFiles.OK, Due.and(Due.at(x, 3), 3).link());
        Due.is(0, Due.at(x, 2).open(0));
        Due.is(1, x.read(0));
        Due.is(1, Due.at(x, 2).open(2));
        Due.is(0, Due.at(x, 1).about(true, 1));
        Due.is(3, Due.at(x, 2).about(false, 0));
        Due.is(1, x.about(false, 1));
        Due.is(VirtualFiles.LOOP, Due.at(x, 3).open(1));
        Due.directories(x, 4);
        Due.is(VirtualFiles.OK, Due.and(Due.at(x, 5), 4).link());
        Due.is(2, Due.at(x, 5, 6).open(1));
        Due.names(Due.at(x, 4), 6);
    }

    // Promise 15: "Closes handle h."
    private static void close() {
        VirtualFiles x = Due.mounted(NODES);
        Due.is(0, Due.at(x, 1).open(1));
        Due.is(VirtualFiles.BAD, x.close(1));
        Due.is(VirtualFiles.BAD, x.close(-1));
        Due.is(VirtualFiles.BAD, x.close(5));
        Due.is(VirtualFiles.BAD, x.close(Integer.MAX_VALUE));
        Due.is(VirtualFiles.OK, x.write(0, 3));
        Due.is(VirtualFiles.OK, x.close(0));
        Due.is(VirtualFiles.BAD, x.close(0));
        Due.is(VirtualFiles.BAD, x.read(0));
        Due.is(VirtualFiles.BAD, x.write(0, 1));
        Due.is(VirtualFiles.BAD, x.seek(0, 0));
        Due.is(VirtualFiles.BAD, x.resize(0, 0));
        Due.is(1, Due.at(x, 1).about(true, 1));
    }

    private static void closeEndsWhatIsRemoved() {
        for (int format = TABLE; format <= LOG; format++) {
            VirtualFiles x = Due.mounted(format);
            Due.file(x, 5, 1);
            x.sync(0);
            Due.is(0, Due.at(x, 1).open(1));
            Due.is(1, Due.at(x, 1).open(3));
            Due.is(VirtualFiles.OK, Due.at(x, 1).remove());
            Due.is(29, x.free(0));
            Due.is(1, x.read(0));
            Due.is(VirtualFiles.OK, x.write(1, 6));
            Due.is(VirtualFiles.OK, x.seek(0, 5));
            Due.is(6, x.read(0));
            // A new file with the same name is another file.
            Due.is(2, Due.at(x, 1).open(1));
            Due.is(0, x.read(2));
            Due.is(VirtualFiles.OK, x.close(0));
            Due.is(format == LOG ? 28 : 29, x.free(0));
            Due.is(VirtualFiles.OK, x.close(1));
            Due.is(format == LOG ? 28 : 31, x.free(0));
            Due.is(format == LOG ? 3 : 0, x.sync(0));
            Due.is(31, x.free(0));
            Due.is(0, Due.at(x, 1).about(true, 1));
        }
    }

    // Promise 16: "The int at the position, which goes on by one"
    private static void read() {
        VirtualFiles x = Due.mounted(TABLE);
        Due.is(0, Due.at(x, 1).open(1));
        int[] values = {Integer.MIN_VALUE, -13, 0, Integer.MAX_VALUE, -1};
        for (int v : values) {
            Due.is(VirtualFiles.OK, x.write(0, v));
        }
        Due.is(0, x.read(0));
        Due.is(VirtualFiles.OK, x.seek(0, 0));
        Due.is(1, Due.at(x, 1).open(0));
        for (int v : values) {
            Due.is(v, x.read(0));
            Due.is(v, x.read(1));
        }
        Due.is(0, x.read(0));
        Due.is(0, x.read(0));
        // Behind the end the position stays, so what is written next is read next.
        Due.is(VirtualFiles.OK, x.write(0, 8));
        Due.is(8, x.read(1));
        Due.is(VirtualFiles.OK, x.seek(1, 20));
        Due.is(0, x.read(1));
        Due.is(VirtualFiles.OK, x.resize(0, 2));
        Due.is(VirtualFiles.OK, x.seek(1, 1));
        Due.is(-13, x.read(1));
        Due.is(0, x.read(1));
    }

    private static void handlesHaveTheirOwnPositions() {
        for (int first = 0; first <= 1; first++) {
            for (int second = 0; second <= 1; second++) {
                VirtualFiles x = Due.mounted(LOG);
                Due.file(x, 6, 1);
                Due.is(0, Due.at(x, 1).open(first));
                Due.is(1, Due.at(x, 1).open(second));
                Due.is(1, x.read(0));
                Due.is(2, x.read(0));
                Due.is(1, x.read(1));
                Due.is(VirtualFiles.OK, x.seek(0, 4));
                Due.is(2, x.read(1));
                Due.is(5, x.read(0));
                Due.is(first == 0 ? VirtualFiles.BAD : VirtualFiles.OK, x.write(0, -6));
                Due.is(3, x.read(1));
                Due.is(first == 0 ? 6 : 0, x.read(0));
                Due.is(VirtualFiles.OK, x.close(1));
                Due.is(1, Due.at(x, 1).open(second));
                Due.is(1, x.read(1));
                Due.is(0, x.read(0));
            }
        }
    }

    // Promise 16: "BAD (as a long, like all these)"
    private static void readRefuses() {
        VirtualFiles x = Due.mounted(LOG);
        Due.file(x, 3, 1);
        Due.is(0, Due.at(x, 1).open(3));
        Due.is(VirtualFiles.BAD, x.read(0));
        Due.is(1, Due.at(x, 1).open(2));
        Due.is(VirtualFiles.BAD, x.read(1));
        Due.is(VirtualFiles.BAD, x.read(2));
        Due.is(VirtualFiles.BAD, x.read(-1));
        Due.is(VirtualFiles.BAD, x.read(5));
        Due.is(VirtualFiles.BAD, x.read(Integer.MIN_VALUE));
    }

    // Promise 17: "Writes an int at the position .. which goes on by one"
    private static void write() {
        for (int format = TABLE; format <= LOG; format++) {
            VirtualFiles x = Due.mounted(format);
            Due.is(0, Due.at(x, 1).open(1));
            for (int i = 0; i < 20; i++) {
                Due.is(VirtualFiles.OK, x.write(0, 100 + i));
                Due.is(i + 1, x.about(true, 1));
            }
            Due.is(VirtualFiles.FULL, x.write(0, 1));
            Due.is(VirtualFiles.OK, x.seek(0, 10));
            Due.is(VirtualFiles.OK, x.write(0, -1));
            Due.is(20, x.about(true, 1));
            Due.is(111, x.read(0));
            Due.is(VirtualFiles.OK, x.seek(0, 9));
            Due.is(109, x.read(0));
            Due.is(-1, x.read(0));
            Due.is(111, x.read(0));
        }
    }

    // Promise 14: "3 write, each write goes to the end"; promise 17: "(how 3: at the file's end)"
    private static void writeAtTheEnd() {
        VirtualFiles x = Due.mounted(NODES);
        Due.file(x, 3, 1);
        Due.is(0, Due.at(x, 1).open(3));
        Due.is(1, Due.at(x, 1).open(1));
        Due.is(VirtualFiles.OK, x.write(0, 7));
        Due.is(VirtualFiles.OK, x.seek(0, 0));
        Due.is(VirtualFiles.OK, x.write(0, 8));
        Due.is(5, x.about(true, 1));
        for (int i = 1; i <= 3; i++) {
            Due.is(i, x.read(1));
        }
        Due.is(7, x.read(1));
        Due.is(8, x.read(1));
        Due.is(VirtualFiles.OK, x.resize(1, 1));
        Due.is(VirtualFiles.OK, x.write(0, 9));
        Due.is(2, x.about(true, 1));
        Due.is(VirtualFiles.OK, x.seek(1, 1));
        Due.is(9, x.read(1));
        Due.is(VirtualFiles.OK, x.resize(1, 20));
        Due.is(VirtualFiles.FULL, x.write(0, 9));
        Due.is(VirtualFiles.OK, x.seek(0, 3));
        Due.is(VirtualFiles.FULL, x.write(0, 9));
    }

    // Promise 17: "what lies between the old end and it is 0"
    private static void writeBehindTheEnd() {
        for (int format = TABLE; format <= LOG; format++) {
            VirtualFiles x = Due.mounted(format);
            Due.file(x, 12, 1);
            Due.is(0, Due.at(x, 1).open(1));
            Due.is(VirtualFiles.OK, x.resize(0, 2));
            Due.is(VirtualFiles.OK, x.seek(0, 6));
            Due.is(VirtualFiles.OK, x.write(0, 5));
            Due.is(7, x.about(true, 1));
            Due.is(VirtualFiles.OK, x.seek(0, 0));
            int[] want = {1, 2, 0, 0, 0, 0, 5, 0};
            for (int v : want) {
                Due.is(v, x.read(0));
            }
            Due.is(VirtualFiles.OK, x.seek(0, 19));
            Due.is(VirtualFiles.OK, x.write(0, 6));
            Due.is(20, x.about(true, 1));
            Due.is(VirtualFiles.OK, x.seek(0, 7));
            for (int i = 7; i < 19; i++) {
                Due.is(0, x.read(0));
            }
            Due.is(6, x.read(0));
        }
    }

    private static void writeTakesBlocksOnTable() {
        VirtualFiles x = Due.mounted(TABLE);
        Due.is(0, Due.at(x, 1).open(1));
        for (int i = 1; i <= 20; i++) {
            Due.is(VirtualFiles.OK, x.write(0, i));
            Due.is((i + 3) / 4, x.about(true, 3));
            Due.is(31 - (i + 3) / 4, x.free(0));
        }
        Due.is(0, x.sync(0));
        Due.is(1, Due.at(x, 2).open(1));
        Due.is(VirtualFiles.OK, x.seek(1, 16));
        Due.is(VirtualFiles.OK, x.write(1, 1));
        Due.is(5, x.about(true, 3));
    }

    private static void writeTakesBlocksOnNodes() {
        VirtualFiles x = Due.mounted(NODES);
        Due.is(0, Due.at(x, 1).open(1));
        int[] at = {7, 4, 19, 16, 0, 3, 12, 11, 8};
        int[] blocks = {1, 1, 2, 2, 3, 3, 4, 5, 5};
        for (int i = 0; i < at.length; i++) {
            Due.is(VirtualFiles.OK, x.seek(0, at[i]));
            Due.is(VirtualFiles.OK, x.write(0, 0));
            Due.is(blocks[i], x.about(true, 3));
            Due.is(31 - blocks[i], x.free(0));
        }
        Due.is(0, x.sync(0));
    }

    private static void writeTakesBlocksOnLog() {
        VirtualFiles x = Due.mounted(LOG);
        Due.is(0, Due.at(x, 1).open(1));
        int[] at = {7, 4, 19, 16, 0, 3, 12, 11, 8};
        int[] blocks = {1, 1, 2, 2, 3, 3, 4, 5, 5};
        for (int i = 0; i < at.length; i++) {
            Due.is(VirtualFiles.OK, x.seek(0, at[i]));
            Due.is(VirtualFiles.OK, x.write(0, 0));
            Due.is(blocks[i], x.about(true, 3));
            Due.is(30 - i, x.free(0));
        }
        Due.is(4, x.sync(0));
        Due.is(26, x.free(0));
    }

    private static void writeRefuses() {
        VirtualFiles x = Due.mounted(NODES);
        Due.file(x, 1, 1);
        Due.is(0, Due.at(x, 1).open(0));
        Due.is(VirtualFiles.BAD, x.write(0, 5));
        Due.is(VirtualFiles.BAD, x.write(1, 5));
        Due.is(VirtualFiles.BAD, x.write(-1, 5));
        Due.is(VirtualFiles.BAD, x.write(5, 5));
        Due.is(VirtualFiles.BAD, x.write(Integer.MAX_VALUE, 5));
        Due.is(1, x.read(0));
        Due.is(VirtualFiles.OK, x.seek(0, 20));
        Due.is(VirtualFiles.BAD, x.write(0, 5));
    }

    /** A disk on which file 7 and those in directory 2 take all blocks but some; handle 0 is the empty file 1. */
    private static VirtualFiles nearlyFull(int format, int left) {
        VirtualFiles x = Due.mounted(format);
        Due.directories(x, 2);
        Due.is(0, Due.at(x, 1).open(1));
        int toTake = x.free(0) - left;
        for (int n = 2; n <= 6 && toTake > 0; n++) {
            int h = Due.at(x, 2, n).open(1);
            for (int b = 0; b < 5 && toTake > 0; b++) {
                Due.is(VirtualFiles.OK, x.seek(h, 4 * b));
                Due.is(VirtualFiles.OK, x.write(h, n));
                toTake = x.free(0) - left;
            }
            Due.is(VirtualFiles.OK, x.close(h));
        }
        int h = Due.at(x, 7).open(1);
        for (int b = 0; b < 5 && toTake > 0; b++) {
            Due.is(VirtualFiles.OK, x.seek(h, 4 * b));
            Due.is(VirtualFiles.OK, x.write(h, 7));
            toTake = x.free(0) - left;
        }
        Due.is(VirtualFiles.OK, x.close(h));
        Due.is(left, x.free(0));
        return x;
    }

    private static void writeUntilFull() {
        for (int format = TABLE; format <= LOG; format++) {
            VirtualFiles x = nearlyFull(format, 1);
            Due.at(x, 1);
            Due.is(VirtualFiles.OK, x.write(0, 1));
            Due.is(0, x.free(0));
            Due.is(format == LOG ? VirtualFiles.FULL : VirtualFiles.OK, x.write(0, 2));
            Due.is(format == LOG ? 1 : 2, x.about(true, 1));
            Due.is(VirtualFiles.OK, x.seek(0, 4));
            Due.is(VirtualFiles.FULL, x.write(0, 3));
            Due.is(format == LOG ? 1 : 2, x.about(true, 1));
            Due.is(1, x.about(true, 3));
            Due.is(0, x.free(0));
            // What was refused has not moved the position.
            Due.is(VirtualFiles.OK, Due.at(x, 7).remove());
            x.sync(0);
            Due.is(VirtualFiles.OK, Due.at(x, 1).write(0, 3));
            Due.is(5, x.about(true, 1));
        }
        VirtualFiles x = nearlyFull(TABLE, 1);
        Due.is(VirtualFiles.OK, x.seek(0, 4));
        Due.is(VirtualFiles.FULL, x.write(0, 3));
        Due.is(VirtualFiles.FULL, x.resize(0, 5));
        Due.is(VirtualFiles.OK, x.resize(0, 4));
        Due.is(0, x.free(0));
    }

    // Promise 18: "The position becomes p."
    private static void seek() {
        VirtualFiles x = Due.mounted(TABLE);
        Due.file(x, 4, 1);
        Due.is(0, Due.at(x, 1).open(0));
        Due.is(1, Due.at(x, 1).open(1));
        Due.is(VirtualFiles.OK, x.seek(0, 3));
        Due.is(4, x.read(0));
        Due.is(VirtualFiles.OK, x.seek(0, 1));
        Due.is(2, x.read(0));
        Due.is(1, x.read(1));
        Due.is(VirtualFiles.BAD, x.seek(0, 21));
        Due.is(VirtualFiles.BAD, x.seek(0, -1));
        Due.is(VirtualFiles.BAD, x.seek(0, Integer.MAX_VALUE));
        Due.is(VirtualFiles.BAD, x.seek(2, 0));
        Due.is(VirtualFiles.BAD, x.seek(-1, 0));
        Due.is(VirtualFiles.BAD, x.seek(5, 0));
        Due.is(3, x.read(0));
        Due.is(VirtualFiles.OK, x.seek(0, 20));
        Due.is(0, x.read(0));
        Due.is(4, x.about(true, 1));
        Due.is(VirtualFiles.OK, x.seek(1, 20));
        Due.is(VirtualFiles.FULL, x.write(1, 1));
    }

    // Promise 19: "The file becomes n long; if it was shorter with 0"
    private static void resize() {
        for (int format = TABLE; format <= LOG; format++) {
            VirtualFiles x = Due.mounted(format);
            Due.file(x, 10, 1);
            Due.is(0, Due.at(x, 1).open(1));
            Due.is(VirtualFiles.OK, x.seek(0, 6));
            Due.is(VirtualFiles.OK, x.resize(0, 5));
            Due.is(5, x.about(true, 1));
            Due.is(0, x.read(0));
            Due.is(VirtualFiles.OK, x.resize(0, 5));
            Due.is(VirtualFiles.OK, x.resize(0, 20));
            Due.is(20, x.about(true, 1));
            // The position has stayed at 6.
            for (int i = 6; i < 20; i++) {
                Due.is(0, x.read(0));
            }
            Due.is(VirtualFiles.OK, x.seek(0, 4));
            Due.is(5, x.read(0));
            Due.is(0, x.read(0));
            Due.is(VirtualFiles.OK, x.resize(0, 0));
            Due.is(0, x.about(true, 1));
            Due.is(1, Due.at(x, 1).open(2));
            Due.is(VirtualFiles.OK, x.resize(1, 3));
            Due.is(2, Due.at(x, 1).open(3));
            Due.is(VirtualFiles.OK, x.resize(2, 4));
            Due.is(4, x.about(true, 1));
        }
    }

    private static void resizeBlocks() {
        int[] sizes = {20, 16, 17, 5, 4, 20, 3, 0, 12};
        int[][] blocks = {{5, 4, 5, 2, 1, 5, 1, 0, 3}, {5, 4, 4, 2, 1, 1, 1, 0, 0}, {5, 4, 4, 2, 1, 1, 1, 0, 0}};
        int[] dead = {0, 1, 1, 3, 4, 4, 4, 5, 5};
        for (int format = TABLE; format <= LOG; format++) {
            VirtualFiles x = Due.mounted(format);
            Due.file(x, 20, 1);
            x.sync(0);
            Due.is(0, Due.at(x, 1).open(1));
            for (int i = 0; i < sizes.length; i++) {
                Due.is(VirtualFiles.OK, x.resize(0, sizes[i]));
                Due.is(blocks[format][i], x.about(true, 3));
                Due.is(31 - blocks[format][i] - (format == LOG ? dead[i] : 0), x.free(0));
            }
            Due.is(format == LOG ? 5 : 0, x.sync(0));
        }
        // A part that takes no block any more takes one when it is written again.
        VirtualFiles x = Due.mounted(NODES);
        Due.file(x, 8, 1);
        Due.is(0, Due.at(x, 1).open(1));
        Due.is(VirtualFiles.OK, x.resize(0, 4));
        Due.is(VirtualFiles.OK, x.resize(0, 8));
        Due.is(1, x.about(true, 3));
        Due.is(VirtualFiles.OK, x.seek(0, 5));
        Due.is(VirtualFiles.OK, x.write(0, 1));
        Due.is(2, x.about(true, 3));
    }

    private static void resizeRefuses() {
        VirtualFiles x = nearlyFull(TABLE, 2);
        Due.at(x, 1);
        Due.is(VirtualFiles.BAD, x.resize(0, -1));
        Due.is(VirtualFiles.BAD, x.resize(0, 21));
        Due.is(VirtualFiles.BAD, x.resize(0, Integer.MIN_VALUE));
        Due.is(VirtualFiles.BAD, x.resize(1, 0));
        Due.is(VirtualFiles.BAD, x.resize(-1, 0));
        Due.is(VirtualFiles.BAD, x.resize(5, 0));
        Due.is(VirtualFiles.FULL, x.resize(0, 9));
        Due.is(0, x.about(true, 1));
        Due.is(VirtualFiles.OK, x.resize(0, 8));
        Due.is(0, x.free(0));
        Due.is(VirtualFiles.FULL, x.resize(0, 9));
        Due.is(VirtualFiles.OK, x.resize(0, 7));
        Due.is(VirtualFiles.OK, x.resize(0, 8));
        Due.is(1, Due.at(x, 1).open(0));
        Due.is(VirtualFiles.BAD, x.resize(1, 0));
        Due.is(8, x.about(true, 1));
        for (int format = NODES; format <= LOG; format++) {
            VirtualFiles y = nearlyFull(format, 0);
            Due.is(VirtualFiles.OK, y.resize(0, 20));
            Due.is(VirtualFiles.FULL, y.write(0, 1));
        }
    }
}
