import java.util.function.Supplier;
import java.util.function.ToLongBiFunction;

/** What promises 14 to 19 refuse, in its order, and that it changes nothing: open, close, read, write, seek, resize. */
public final class FileRefusalsTest implements Words {
    // The last two are handles that threeOpen leaves closed.
    private static final int[] NOT_OPEN = {-1, 5, LEAST, GREATEST, 2, 4};

    public static void main(String[] args) {
        openWithNothingMounted();
        openHowOutside();
        openBeginsReadOnly();
        openBeginsWithFiveOpen();
        openBeginsOnAFullDisk();
        openBeginsOnlyForOneAndThree();
        openBeginsNothingBehindALink();
        openBeginsNothingWithoutAName();
        openWhatTheWaySays();
        openDirectories();
        openReadOnly();
        openWithFiveOpen();
        closeNotOpen();
        readNotOpen();
        readToWriteOnly();
        readBehindTheEnd();
        writeNotOpen();
        writeToReadOnly();
        writeBehindTwenty();
        writeWithoutABlock();
        seekNotOpen();
        seekOutside();
        resizeNotOpen();
        resizeToReadOnly();
        resizeOutside();
        resizeWithoutABlock();
        Due.end();
    }

    private static Supplier<VirtualFiles> fiveOpenAt(int... a) {
        return () -> Due.at(World.crowdedWithFiveOpen(), a);
    }

    // Promise 14: "BAD if nothing is mounted"
    private static void openWithNothingMounted() {
        for (int how = 0; how <= 3; how++) {
            int wanted = how;
            for (int[] a : new int[][] {{}, {HERE}, {1}, {1, 1}}) {
                Refusal.is(BAD, () -> Due.at(new VirtualFiles(), a), x -> x.open(wanted));
            }
        }
    }

    // Promise 14: "or how is outside", before all that path A is wrong for
    private static void openHowOutside() {
        for (int how : new int[] {-1, 4, LEAST, GREATEST}) {
            for (int[] a : new int[][] {{3}, {9}, {1, 9}, {3, 1}, {4}, {2}}) {
                Refusal.is(BAD, World.crowdedAt(a), x -> x.open(how));
                Refusal.is(BAD, fiveOpenAt(a), x -> x.open(how));
            }
        }
    }

    // Promise 14: a new file: "READONLY", before "BUSY if 5 are open" and FULL
    private static void openBeginsReadOnly() {
        for (int how : new int[] {1, 3}) {
            Refusal.is(READONLY, World.crowdedAt(1, 9), x -> x.open(how));
            Refusal.is(READONLY, World.crowdedAt(1, 6, 1), x -> x.open(how));
            Refusal.is(READONLY, fiveOpenAt(1, 9), x -> x.open(how));
            Refusal.is(READONLY, fiveOpenAt(1, 6, 1), x -> x.open(how));
        }
    }

    // Promise 14: a new file: "BUSY if 5 are open", before FULL
    private static void openBeginsWithFiveOpen() {
        for (int how : new int[] {1, 3}) {
            Refusal.is(BUSY, fiveOpenAt(9), x -> x.open(how));
            Refusal.is(BUSY, fiveOpenAt(6, 1), x -> x.open(how));
            Refusal.is(BUSY, fiveOpenAt(HERE, 6, 14), x -> x.open(how));
        }
        VirtualFiles x = World.crowdedWithFiveOpen();
        Due.is(OK, Due.at(x, 2, 2).remove());
        Due.is(BUSY, x.open(1));
        Due.is(OK, x.close(2));
        Due.is(2, x.open(1));
    }

    // Promise 14: a new file: "FULL"
    private static void openBeginsOnAFullDisk() {
        for (int how : new int[] {1, 3}) {
            Refusal.is(FULL, World.crowdedAt(9), x -> x.open(how));
            Refusal.is(FULL, World.crowdedAt(6, 1), x -> x.open(how));
            Refusal.is(FULL, () -> Due.at(World.crowdedTable(), 7), x -> x.open(how));
            Refusal.is(FULL, () -> Due.at(RenameRefusalsTest.withoutBlocks(), 5), x -> x.open(how));
            Refusal.is(FULL, () -> Due.at(RenameRefusalsTest.withoutBlocks(), 1, 14), x -> x.open(how));
        }
    }

    // Promise 14: "how is 1 or 3"; for others "what the way says"
    private static void openBeginsOnlyForOneAndThree() {
        for (int how : new int[] {0, 2}) {
            Refusal.is(NOENT, World.crowdedAt(9), x -> x.open(how));
            Refusal.is(NOENT, () -> Due.at(Due.mounted(TABLE), 9), x -> x.open(how));
            Refusal.is(NOENT, World.crowdedAt(1, 9), x -> x.open(how));
            Refusal.is(NOENT, fiveOpenAt(9), x -> x.open(how));
        }
        for (int how : new int[] {1, 3}) {
            VirtualFiles x = Due.at(Due.mounted(TABLE), 9);
            Due.is(0, x.open(how));
            Due.names(Due.at(x), 9);
        }
    }

    /** Links at the top: 1 to the name 9 that nothing has, 2 to the name 9 in directory 3, which has it not. */
    private static VirtualFiles dangling() {
        VirtualFiles x = Due.mounted(NODES);
        Due.is(OK, Due.and(Due.at(x, 1), 9).link());
        Due.directories(x, 3);
        Due.is(OK, Due.and(Due.at(x, 2), 3, 9).link());
        return x;
    }

    // Promise 14: "A ends with a name that the directory which the steps before it reach has not (no equal one)"
    private static void openBeginsNothingBehindALink() {
        for (int how = 0; how <= 3; how++) {
            int wanted = how;
            Refusal.is(NOENT, () -> Due.at(dangling(), 1), x -> x.open(wanted));
            Refusal.is(NOENT, () -> Due.at(dangling(), 2), x -> x.open(wanted));
            Refusal.is(NOENT, () -> Due.at(dangling(), HERE, 2), x -> x.open(wanted));
            Refusal.is(NOENT, () -> Due.at(dangling(), 1, 4), x -> x.open(wanted));
            Refusal.is(NOENT, () -> Due.at(dangling(), 2, UP, 4), x -> x.open(wanted));
        }
        VirtualFiles x = dangling();
        Due.is(0, Due.at(x, 3, 9).open(1));
        Due.is(1, Due.at(x, 2).open(3));
        Due.is(OK, x.write(1, 5));
        Due.is(5, x.read(0));
        VirtualFiles y = World.crowdedTable();
        Due.is(0, Due.at(y, 10).open(1));
        Due.is(1, y.read(0));
        Due.is(6, Due.at(y).about(true, 1));
    }

    // Promise 14: "and A ends with a name": a way that ends with UP makes nothing
    private static void openBeginsNothingWithoutAName() {
        for (int how = 0; how <= 3; how++) {
            int wanted = how;
            Refusal.is(NOENT, () -> Due.at(dangling(), 9, UP), x -> x.open(wanted));
            Refusal.is(NOENT, () -> Due.at(dangling(), 3, 9, UP), x -> x.open(wanted));
            Refusal.is(NOENT, () -> Due.at(dangling(), 9, 9), x -> x.open(wanted));
        }
    }

    // Promise 14: "In all other cases what the way says"
    private static void openWhatTheWaySays() {
        for (int how = 0; how <= 3; how++) {
            int wanted = how;
            Refusal.is(NOENT, World.crowdedAt(9, 1), x -> x.open(wanted));
            Refusal.is(NOTDIR, World.crowdedAt(3, 1), x -> x.open(wanted));
            Refusal.is(NOTDIR, World.crowdedAt(3, UP), x -> x.open(wanted));
            Refusal.is(NOTDIR, World.crowdedAt(5, 1), x -> x.open(wanted));
            Refusal.is(NOTDIR, fiveOpenAt(1, 3, 1), x -> x.open(wanted));
            Refusal.is(LOOP, World.crowdedAt(4), x -> x.open(wanted));
            Refusal.is(LOOP, fiveOpenAt(4, 1), x -> x.open(wanted));
        }
    }

    // Promise 14: "ISDIR", before READONLY and BUSY
    private static void openDirectories() {
        for (int how = 0; how <= 3; how++) {
            int wanted = how;
            for (int[] a : new int[][] {{}, {HERE}, {UP}, {1}, {2}, {2, 3}, {1, 6}}) {
                Refusal.is(ISDIR, World.crowdedAt(a), x -> x.open(wanted));
                Refusal.is(ISDIR, fiveOpenAt(a), x -> x.open(wanted));
            }
        }
    }

    // Promise 14: "READONLY for how above 0 on a read-only disk", before BUSY
    private static void openReadOnly() {
        for (int how = 1; how <= 3; how++) {
            int wanted = how;
            Refusal.is(READONLY, World.crowdedAt(1, 3), x -> x.open(wanted));
            Refusal.is(READONLY, fiveOpenAt(1, 3), x -> x.open(wanted));
            Refusal.is(READONLY, () -> Due.at(World.crowdedTable(), 1, 10), x -> x.open(wanted));
        }
        Due.is(0, World.crowdedAt(1, 3).get().open(0));
        // It is the disk of the file that counts, not that of the link which leads to it.
        Due.is(0, World.crowdedAt(1, 5).get().open(1));
    }

    // Promise 14: "BUSY if 5 are open"
    private static void openWithFiveOpen() {
        for (int how = 0; how <= 3; how++) {
            int wanted = how;
            Refusal.is(BUSY, fiveOpenAt(3), x -> x.open(wanted));
            Refusal.is(BUSY, fiveOpenAt(2, 2), x -> x.open(wanted));
        }
        Refusal.is(BUSY, fiveOpenAt(1, 3), x -> x.open(0));
        for (int h = 0; h < 5; h++) {
            VirtualFiles x = fiveOpenAt(3).get();
            Due.is(OK, x.close(h));
            Due.is(h, x.open(0));
        }
    }

    /** File 3 of five ints: handle 0 to read only, 1 to read and write, 3 to write at the end; 2 and 4 are not open. */
    private static VirtualFiles threeOpen() {
        VirtualFiles x = Due.at(World.crowded(), 3);
        int[] how = {0, 1, 0, 3};
        for (int h = 0; h < how.length; h++) {
            Due.is(h, x.open(how[h]));
        }
        Due.is(OK, x.close(2));
        Due.is(OK, x.seek(0, 2));
        Due.is(OK, x.seek(1, 3));
        return x;
    }

    private static void badIfNotOpen(ToLongBiFunction<VirtualFiles, Integer> call) {
        for (int h : NOT_OPEN) {
            Refusal.is(BAD, FileRefusalsTest::threeOpen, x -> call.applyAsLong(x, h));
        }
    }

    // Promise 15: "BAD if it is not open"
    private static void closeNotOpen() {
        badIfNotOpen((x, h) -> x.close(h));
        VirtualFiles x = threeOpen();
        Due.is(OK, x.close(3));
        Due.is(BAD, x.close(3));
        Due.is(OK, x.close(0));
        Due.is(BAD, x.close(0));
    }

    // Promise 16: "BAD .. if h is not open"
    private static void readNotOpen() {
        badIfNotOpen((x, h) -> x.read(h));
    }

    /** File 3 of two ints, which handle 0 has begun anew to write only. */
    private static VirtualFiles anew() {
        VirtualFiles x = Due.at(World.crowded(), 3);
        Due.is(0, x.open(2));
        Due.is(OK, x.write(0, 8));
        Due.is(OK, x.write(0, 9));
        Due.is(OK, x.seek(0, 0));
        return x;
    }

    // Promise 16: "or was opened to write only (2, 3)"
    private static void readToWriteOnly() {
        Refusal.is(BAD, FileRefusalsTest::anew, x -> x.read(0));
        Refusal.is(BAD, FileRefusalsTest::threeOpen, x -> x.read(3));
        Due.is(3, threeOpen().read(0));
        Due.is(4, threeOpen().read(1));
    }

    /** Handles 0 and 1 of the file 3 of five ints, to read only and to read and write, both at this position. */
    private static VirtualFiles at(int position) {
        VirtualFiles x = Due.at(World.crowded(), 3);
        Due.is(0, x.open(0));
        Due.is(1, x.open(1));
        Due.is(OK, x.seek(0, position));
        Due.is(OK, x.seek(1, position));
        return x;
    }

    // Promise 16: "0 behind the end (the position stays)"
    private static void readBehindTheEnd() {
        for (int p = 5; p <= 20; p++) {
            int position = p;
            Refusal.is(0, () -> at(position), x -> x.read(0));
            Refusal.is(0, () -> at(position), x -> x.read(1));
        }
        Due.is(5, at(4).read(0));
        VirtualFiles x = at(5);
        Due.is(0, x.read(0));
        Due.is(OK, x.write(1, -6));
        Due.is(-6, x.read(0));
        Due.is(0, x.read(0));
    }

    // Promise 17: "BAD if h is not open"
    private static void writeNotOpen() {
        badIfNotOpen((x, h) -> x.write(h, 7));
    }

    // Promise 17: "or to read only", before FULL
    private static void writeToReadOnly() {
        Refusal.is(BAD, FileRefusalsTest::threeOpen, x -> x.write(0, 7));
        Refusal.is(BAD, () -> at(20), x -> x.write(0, 7));
        Refusal.is(BAD, () -> Blocks.open(TABLE, 0, 0), x -> x.write(0, 7));
    }

    /** File 3 of twenty ints: handle 0 to read and write, handle 1 to write at the end. */
    private static VirtualFiles twentyLong(int position) {
        VirtualFiles x = Due.at(World.crowded(), 3);
        Due.is(0, x.open(1));
        Due.is(1, x.open(3));
        Due.is(OK, x.resize(0, 20));
        Due.is(OK, x.seek(0, position));
        Due.is(OK, x.seek(1, position));
        return x;
    }

    // Promise 17: "FULL", and in "Terms": "or a file longer than 20"
    private static void writeBehindTwenty() {
        Refusal.is(FULL, () -> at(20), x -> x.write(1, 7));
        Refusal.is(FULL, () -> twentyLong(20), x -> x.write(0, 7));
        Refusal.is(FULL, () -> twentyLong(20), x -> x.write(1, 7));
        Refusal.is(FULL, () -> twentyLong(0), x -> x.write(1, 7));
        VirtualFiles x = at(19);
        Due.is(OK, x.write(1, 7));
        Due.is(20, Due.at(x, 3).about(true, 1));
        Due.is(FULL, x.write(1, 7));
        VirtualFiles y = twentyLong(19);
        Due.is(OK, y.write(0, 7));
        Due.is(FULL, y.write(0, 7));
        Due.is(OK, y.resize(0, 19));
        Due.is(OK, y.write(1, 8));
        Due.is(FULL, y.write(1, 8));
    }

    // Promise 17: "FULL", for want of a block
    private static void writeWithoutABlock() {
        for (int format = TABLE; format <= LOG; format++) {
            for (int how = 1; how <= 3; how++) {
                int f = format;
                int h = how;
                Refusal.is(FULL, () -> Blocks.open(f, h, 0), x -> x.write(0, 7));
                Due.is(OK, Blocks.open(f, h, 1).write(0, 7));
            }
        }
    }

    // Promise 18: "BAD if h is not open"
    private static void seekNotOpen() {
        badIfNotOpen((x, h) -> x.seek(h, 1));
    }

    // Promise 18: "or p outside 0..20"
    private static void seekOutside() {
        for (int p : new int[] {-1, 21, LEAST, GREATEST}) {
            for (int h : new int[] {0, 1, 3}) {
                Refusal.is(BAD, FileRefusalsTest::threeOpen, x -> x.seek(h, p));
            }
        }
        for (int p = 0; p <= 20; p++) {
            VirtualFiles x = threeOpen();
            Due.is(OK, x.seek(0, p));
            Due.is(OK, x.seek(3, p));
            Due.is(p < 5 ? p + 1 : 0, x.read(0));
        }
    }

    // Promise 19: "BAD if h is not open"
    private static void resizeNotOpen() {
        badIfNotOpen((x, h) -> x.resize(h, 1));
    }

    // Promise 19: "or to read only", before FULL
    private static void resizeToReadOnly() {
        for (int n : new int[] {0, 4, 5, 6, 20}) {
            Refusal.is(BAD, FileRefusalsTest::threeOpen, x -> x.resize(0, n));
            Refusal.is(BAD, () -> Blocks.open(TABLE, 0, 0), x -> x.resize(0, n));
        }
    }

    // Promise 19: "or n is outside 0..20", before FULL
    private static void resizeOutside() {
        for (int n : new int[] {-1, 21, LEAST, GREATEST}) {
            Refusal.is(BAD, FileRefusalsTest::threeOpen, x -> x.resize(1, n));
            Refusal.is(BAD, FileRefusalsTest::threeOpen, x -> x.resize(3, n));
            Refusal.is(BAD, () -> Blocks.open(TABLE, 1, 0), x -> x.resize(0, n));
        }
        for (int n = 0; n <= 20; n++) {
            VirtualFiles x = threeOpen();
            Due.is(OK, x.resize(1, n));
            Due.is(n, Due.at(x, 3).about(true, 1));
        }
    }

    // Promise 19: "FULL", "on TABLE blocks are taken" alone
    private static void resizeWithoutABlock() {
        for (int how = 1; how <= 3; how++) {
            int h = how;
            Refusal.is(FULL, () -> Blocks.open(TABLE, h, 0), x -> x.resize(0, 1));
            Refusal.is(FULL, () -> Blocks.open(TABLE, h, 1), x -> x.resize(0, 5));
            Refusal.is(FULL, () -> Blocks.open(TABLE, h, 4), x -> x.resize(0, 17));
            for (int left = 0; left <= 5; left++) {
                Due.is(OK, Blocks.open(TABLE, h, left).resize(0, 4 * left));
            }
            Due.is(OK, Blocks.open(NODES, h, 0).resize(0, 20));
            Due.is(OK, Blocks.open(LOG, h, 0).resize(0, 20));
        }
    }
}
