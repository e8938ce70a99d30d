import java.util.Arrays;
import java.util.function.Supplier;

/** "Terms", on what a disk and a directory hold, on names, and on objects that are gone. */
public final class TermsTest implements Words {
    public static void main(String[] args) {
        disksAreFour();
        tenObjectsOfEachKind();
        tenObjectsOnEachDisk();
        anEleventhObject();
        aFurtherEntryIsNoObject();
        sixEntries();
        aSeventhEntry();
        aSeventhEntryByRename();
        namesFromOneToFourteen();
        namesByRisingNumber();
        equalNamesOnTable();
        equalNamesFindTheEntry();
        equalNamesAreTakenByRename();
        equalNamesOfTheDirectorysOwnDisk();
        entriesForEachObject();
        sizesFromZeroToTwenty();
        filesAreApart();
        objectsAreApart();
        linksHaveUpToFiveSteps();
        goneWithTheLastEntry();
        notGoneWhileOpen();
        notGoneWhileAnyHandleIsOpen();
        goneWhenReplaced();
        goneLeavesNothingBehind();
        Due.end();
    }

    // "DISKS 0..3 are TABLE (0), NODES (1) or LOG (2)"
    private static void disksAreFour() {
        for (int format = TABLE; format <= LOG; format++) {
            VirtualFiles x = new VirtualFiles();
            int[] path = {};
            for (int d = 3; d >= 0; d--) {
                Due.is(OK, x.make(d, format));
                Due.is(OK, Due.at(x, path).mount(d));
                path = Arrays.copyOf(path, path.length + 1);
                path[path.length - 1] = d + 1;
                Due.is(OK, Due.at(x, path).directory());
                Due.is(d, x.about(true, 4));
                Due.is(30, x.free(d));
                Due.is(format == TABLE ? UNSUPPORTED : OK, link(x, path));
            }
        }
    }

    private static int link(VirtualFiles x, int[] path) {
        int[] beside = path.clone();
        beside[path.length - 1] += 5;
        return Due.at(x, beside).link();
    }

    private static int makeKind(VirtualFiles x, int kind, int... a) {
        Due.and(Due.at(x, a), 1);
        if (kind == 1) {
            return x.directory();
        }
        if (kind == 3) {
            return x.link();
        }
        int h = x.open(1);
        return h < 0 ? h : x.close(h);
    }

    /** A disk with this many objects beside its root, all of one kind but for directory 1, which has six of them. */
    private static VirtualFiles objects(int format, int kind, int count) {
        VirtualFiles x = Due.mounted(format);
        Due.directories(x, 1);
        for (int n = 1; n < count; n++) {
            Due.is(OK, n <= 6 ? makeKind(x, kind, 1, n) : makeKind(x, kind, n - 5));
        }
        return x;
    }

    // "at most 10 OBJECTS: directories, files and links; its root is a directory"
    private static void tenObjectsOfEachKind() {
        for (int format = TABLE; format <= LOG; format++) {
            for (int kind = 1; kind <= (format == TABLE ? 2 : 3); kind++) {
                VirtualFiles x = objects(format, kind, 8);
                Due.is(OK, makeKind(x, kind, 4));
                for (int further = 1; further <= 2; further++) {
                    Due.is(FULL, makeKind(x, further, 5));
                }
                Due.is(format == TABLE ? UNSUPPORTED : FULL, makeKind(x, 3, 5));
                Due.is(OK, kind == 1 ? Due.at(x, 1, 6).prune() : Due.at(x, 1, 6).remove());
                Due.is(OK, makeKind(x, 2, 5));
                Due.is(FULL, makeKind(x, 1, 1, 6));
            }
        }
    }

    // "A disk has .. at most 10 OBJECTS": each disk has its own
    private static void tenObjectsOnEachDisk() {
        VirtualFiles x = objects(NODES, 1, 9);
        Due.is(FULL, Due.at(x, 5).directory());
        Due.is(OK, Due.at(x, 1, 1).mount(3));
        for (int n = 1; n <= 5; n++) {
            Due.is(OK, Due.at(x, 1, 1, n).directory());
        }
        for (int n = 1; n <= 4; n++) {
            Due.is(OK, Due.at(x, 1, 1, 1, n).directory());
        }
        Due.is(FULL, Due.at(x, 1, 1, 6).directory());
        Due.is(FULL, Due.at(x, 5).directory());
        Due.is(OK, Due.at(x, 3).prune());
        Due.is(FULL, Due.at(x, 1, 1, 6).directory());
        Due.is(OK, Due.at(x, 5).directory());
    }

    // "FULL is an operation that would need an eleventh object"
    private static void anEleventhObject() {
        for (int format = TABLE; format <= LOG; format++) {
            int f = format;
            Refusal.is(FULL, () -> Due.at(objects(f, 2, 9), 5), VirtualFiles::directory);
            Refusal.is(FULL, () -> Due.at(objects(f, 1, 9), 5), x -> x.open(1));
            Refusal.is(FULL, () -> Due.at(objects(f, 1, 9), 5), x -> x.open(3));
            Refusal.is(format == TABLE ? UNSUPPORTED : FULL, () -> Due.at(objects(f, 1, 9), 5), VirtualFiles::link);
        }
    }

    private static void aFurtherEntryIsNoObject() {
        VirtualFiles x = objects(NODES, 2, 9);
        Due.is(FULL, Due.at(x, 5).open(1));
        Due.is(OK, Due.and(Due.at(x, 5), 1, 1).entry());
        Due.is(OK, Due.and(Due.at(x, 6), 1, 1).entry());
        Due.is(3, Due.at(x, 6).about(true, 2));
        // Taking one of them away gives no object back.
        Due.is(OK, Due.at(x, 6).remove());
        Due.is(FULL, Due.at(x, 6).open(1));
        Due.is(OK, Due.at(x, 5).remove());
        Due.is(FULL, Due.at(x, 6).open(1));
        Due.is(OK, Due.at(x, 1, 1).remove());
        Due.is(0, Due.at(x, 6).open(1));
    }

    /** The root, or directory 1 of it, with this many files as its entries. */
    private static VirtualFiles entries(int format, boolean below, int count) {
        VirtualFiles x = Due.mounted(format);
        if (below) {
            Due.directories(x, 1);
        }
        for (int n = 1; n <= count; n++) {
            Due.file(x, 0, in(below, n));
        }
        return x;
    }

    private static int[] in(boolean below, int name) {
        return below ? new int[] {1, name} : new int[] {name};
    }

    // "A directory has at most 6 ENTRIES"
    private static void sixEntries() {
        for (int format = TABLE; format <= LOG; format++) {
            for (boolean below : new boolean[] {false, true}) {
                for (int kind = 1; kind <= (format == TABLE ? 2 : 3); kind++) {
                    VirtualFiles x = entries(format, below, 5);
                    Due.is(OK, makeKind(x, kind, in(below, 6)));
                    Due.is(FULL, makeKind(x, kind, in(below, 7)));
                    Due.names(below ? Due.at(x, 1) : Due.at(x), 1, 2, 3, 4, 5, 6);
                    Due.is(OK, Due.at(x, in(below, 3)).remove());
                    Due.is(OK, makeKind(x, kind, in(below, 7)));
                    Due.names(below ? Due.at(x, 1) : Due.at(x), 1, 2, 4, 5, 6, 7);
                }
            }
        }
    }

    // "a seventh entry"
    private static void aSeventhEntry() {
        for (int format = TABLE; format <= LOG; format++) {
            int f = format;
            for (boolean below : new boolean[] {false, true}) {
                Supplier<VirtualFiles> six = () -> Due.and(Due.at(entries(f, below, 6), in(below, 7)), in(below, 1));
                Refusal.is(FULL, six, VirtualFiles::directory);
                Refusal.is(FULL, six, x -> x.open(1));
                Refusal.is(FULL, six, x -> x.open(3));
                Refusal.is(format == TABLE ? UNSUPPORTED : FULL, six, VirtualFiles::link);
                Refusal.is(format == NODES ? FULL : UNSUPPORTED, six, VirtualFiles::entry);
            }
        }
    }

    private static void aSeventhEntryByRename() {
        for (int format = TABLE; format <= LOG; format++) {
            int f = format;
            Supplier<VirtualFiles> fullBelow = () -> {
                VirtualFiles x = entries(f, true, 6);
                Due.file(x, 0, 2);
                return Due.and(Due.at(x, 2), 1, 7);
            };
            Refusal.is(FULL, fullBelow, VirtualFiles::rename);
            VirtualFiles x = fullBelow.get();
            Due.is(OK, Due.and(Due.at(x, 1, 6), 1, 7).rename());
            Due.names(Due.at(x, 1), 1, 2, 3, 4, 5, 7);
            Due.is(OK, Due.and(Due.at(x, 2), 1, 7).rename());
            Due.names(Due.at(x, 1), 1, 2, 3, 4, 5, 7);
            Due.names(Due.at(x), 1);
        }
    }

    // "each a NAME 1..14"
    private static void namesFromOneToFourteen() {
        for (int format = TABLE; format <= LOG; format++) {
            for (int n = 1; n <= 14; n++) {
                VirtualFiles x = Due.mounted(format);
                Due.is(OK, Due.at(x, n).directory());
                Due.is(OK, Due.at(x, n, n).directory());
                Due.is(0, Due.at(x, n, n, n).open(1));
                Due.names(Due.at(x), n);
                Due.names(Due.at(x, n), n);
                Due.names(Due.at(x, n, n), n);
                Due.is(OK, Due.and(Due.at(x, n, n, n), n == 14 ? 1 : n + 1).rename());
                Due.is(OK, Due.at(x, n, n).prune());
                Due.is(OK, Due.at(x, n == 14 ? 1 : n + 1).remove());
                Due.names(Due.at(x), n);
            }
        }
    }

    // "names are listed by rising number"
    private static void namesByRisingNumber() {
        for (int format = TABLE; format <= LOG; format++) {
            VirtualFiles x = Due.mounted(format);
            Due.directories(x, 14, 8, 2, 10, 5, 6);
            Due.names(Due.at(x), 2, 5, 6, 8, 10, 14);
            Due.is(OK, Due.at(x, 6).prune());
            Due.is(OK, Due.and(Due.at(x, 14), 11).rename());
            Due.is(OK, Due.and(Due.at(x, 2), 4 + 9).rename());
            Due.names(Due.at(x), 5, 8, 10, 11, 13);
            Due.directories(x, 9);
            Due.names(Due.at(x), 5, 8, 9, 10, 11, 13);
        }
    }

    private static boolean equal(int format, int m, int n) {
        return m == n || (format == TABLE && (m == n + 7 || n == m + 7));
    }

    // "On a TABLE disk n and n + 7 (n 1..7) are EQUAL names, else only the same ones are", "never equal"
    private static void equalNamesOnTable() {
        for (int format = TABLE; format <= LOG; format++) {
            for (int m = 1; m <= 14; m++) {
                for (int n = 1; n <= 14; n++) {
                    boolean equal = equal(format, m, n);
                    for (int kind = 1; kind <= 2; kind++) {
                        VirtualFiles x = Due.mounted(format);
                        Due.is(OK, makeKind(x, kind, m));
                        Due.is(equal ? kind : NOENT, Due.at(x, n).about(true, 0));
                        Due.is(equal ? EXISTS : OK, Due.at(x, n).directory());
                        Due.is(equal ? 1 : 2, Due.at(x).about(true, 1));
                    }
                }
            }
        }
    }

    // "A name to the object whose entry in D has an equal name", for each call that looks for one
    private static void equalNamesFindTheEntry() {
        for (int n = 1; n <= 14; n++) {
            int other = n > 7 ? n - 7 : n + 7;
            VirtualFiles x = Due.mounted(TABLE);
            Due.is(0, Due.at(x, n).open(1));
            Due.is(1, Due.at(x, other).open(3));
            Due.is(2, Due.at(x, other).open(2));
            Due.names(Due.at(x), n);
            Due.is(UNSUPPORTED, Due.and(Due.at(x, n == 3 || n == 10 ? 4 : 3), other).entry());
            Due.is(EXISTS, Due.and(Due.at(x, other), other).entry());
            Due.is(EXISTS, Due.at(x, other).link());
            Due.is(OK, Due.at(x, other).remove());
            Due.is(OK, Due.at(x, n).directory());
            Due.is(OK, Due.at(x, other, 1).directory());
            Due.is(OK, Due.at(x, other, 8).enter());
            Due.is(BUSY, Due.at(x, n, 8).prune());
            Due.is(OK, Due.at(x).enter());
            Due.is(OK, Due.at(x, other, 8).prune());
            Due.is(OK, Due.at(x, other).mount(1));
            Due.is(1, Due.at(x, n).about(true, 4));
            Due.is(OK, x.unmount(1));
            Due.is(OK, Due.at(x, other).prune());
            Due.names(Due.at(x));
        }
    }

    private static void equalNamesAreTakenByRename() {
        for (int n = 1; n <= 14; n++) {
            int other = n > 7 ? n - 7 : n + 7;
            int beside = n % 7 == 1 ? 2 : 1;
            VirtualFiles x = Due.mounted(TABLE);
            Due.file(x, 3, n);
            Due.is(OK, Due.and(Due.at(x, n), other).rename());
            Due.names(Due.at(x), other);
            Due.is(OK, Due.and(Due.at(x, n), other).rename());
            Due.names(Due.at(x), other);
            Due.file(x, 1, beside);
            Due.is(OK, Due.and(Due.at(x, beside), n).rename());
            Due.names(Due.at(x), n);
            Due.is(1, Due.at(x, other).about(true, 1));
        }
    }

    private static void equalNamesOfTheDirectorysOwnDisk() {
        VirtualFiles x = Due.mounted(NODES);
        Due.directories(x, 1, 8);
        Due.is(OK, Due.at(x, 8).mount(1));
        Due.is(OK, Due.at(x, 8, 1).directory());
        Due.is(1, Due.at(x, 8, 8).about(true, 4));
        Due.is(EXISTS, Due.at(x, 8, 8).directory());
        Due.is(0, Due.at(x, 1).about(true, 4));
        Due.is(OK, Due.and(Due.at(x, 9), 8, 8).link());
        Due.is(1, Due.at(x, 9).about(true, 4));
        Due.is(NOENT, Due.at(x, 2).about(true, 4));
    }

    // "Every directory but roots has one entry for it; a file on a NODES disk may have several, other objects have one."
    private static void entriesForEachObject() {
        for (int format = TABLE; format <= LOG; format++) {
            VirtualFiles x = Due.mounted(format);
            Due.is(0, Due.at(x).about(true, 2));
            Due.directories(x, 1);
            Due.is(OK, Due.at(x, 1, 1).directory());
            Due.is(1, Due.at(x, 1).about(true, 2));
            Due.is(1, Due.at(x, 1, 1).about(true, 2));
            Due.is(0, Due.at(x, 1, UP).about(true, 2));
            Due.file(x, 1, 2);
            for (int n = 2; n <= 6; n++) {
                Due.is(format == NODES ? n - 1 : 1, Due.at(x, 2).about(true, 2));
                Due.is(format == NODES ? OK : UNSUPPORTED, Due.and(Due.at(x, 1, n), 2).entry());
            }
            Due.is(format == NODES ? 6 : 1, Due.at(x, 2).about(true, 2));
            if (format != TABLE) {
                Due.is(OK, Due.and(Due.at(x, 3), 2).link());
                Due.is(UNSUPPORTED, Due.and(Due.at(x, 4), 3).entry());
                Due.is(1, Due.at(x, 3).about(false, 2));
            }
        }
    }

    // "A FILE has a size 0..20 and that many ints."
    private static void sizesFromZeroToTwenty() {
        for (int format = TABLE; format <= LOG; format++) {
            for (int size = 0; size <= 20; size++) {
                VirtualFiles x = Due.mounted(format);
                Due.file(x, size, 1);
                Due.is(size, Due.at(x, 1).about(true, 1));
                Due.is(0, x.open(0));
                for (int i = 1; i <= size; i++) {
                    Due.is(i, x.read(0));
                }
                Due.is(0, x.read(0));
                Due.is(1, x.open(3));
                Due.is(size == 20 ? FULL : OK, x.write(1, -9));
                Due.is(size == 20 ? 0 : -9, x.read(0));
                Due.is(size == 20 ? 20 : size + 1, x.about(true, 1));
            }
        }
    }

    // What is written to one file, or makes it longer or shorter, changes no other, on this disk or another.
    private static void filesAreApart() {
        for (int changed = 0; changed < 8; changed++) {
            VirtualFiles x = Due.mounted(NODES);
            Due.directories(x, 6);
            Due.is(OK, Due.at(x, 6).mount(1));
            int[][] files = {{1}, {2}, {3}, {4}, {6, 1}, {6, 2}, {6, 3}, {6, 4}};
            for (int i = 0; i < files.length; i++) {
                Due.is(0, Due.at(x, files[i]).open(1));
                Due.is(OK, x.write(0, 100 + i));
                Due.is(OK, x.resize(0, 20));
                Due.is(OK, x.seek(0, 19));
                Due.is(OK, x.write(0, 200 + i));
                Due.is(OK, x.close(0));
            }
            Due.is(0, Due.at(x, files[changed]).open(2));
            Due.is(OK, x.resize(0, 20));
            Due.is(OK, x.close(0));
            for (int i = 0; i < files.length; i++) {
                Due.is(0, Due.at(x, files[i]).open(0));
                Due.is(i == changed ? 0 : 100 + i, x.read(0));
                Due.is(OK, x.seek(0, 19));
                Due.is(i == changed ? 0 : 200 + i, x.read(0));
                Due.is(0, x.read(0));
                Due.is(OK, x.close(0));
            }
        }
    }

    // An entry in one directory, be its name the first or the last, stands in no other, whichever object that is.
    private static void objectsAreApart() {
        for (int top = 0; top < 4; top++) {
            VirtualFiles x = new VirtualFiles();
            Due.is(OK, x.mount(top));
            int[][] paths = {{1}, {14}, {1, 1}, {1, 14}, {14, 1}, {14, 14}, {1, 1, 1}, {1, 1, 14}, {1, 1, 14, 14}};
            for (int[] path : paths) {
                Due.is(OK, Due.at(x, path).directory());
            }
            Due.is(FULL, Due.at(x, 2).directory());
            Due.names(Due.at(x), 1, 14);
            Due.names(Due.at(x, 1), 1, 14);
            Due.names(Due.at(x, 14), 1, 14);
            Due.names(Due.at(x, 1, 1), 1, 14);
            Due.names(Due.at(x, 1, 14));
            Due.names(Due.at(x, 14, 14));
            Due.names(Due.at(x, 1, 1, 1));
            Due.names(Due.at(x, 1, 1, 14), 14);
            Due.names(Due.at(x, 1, 1, 14, 14));
            Due.is(OK, Due.and(Due.at(x, 14, 14), 1, 1, 14, 14, 14).rename());
            Due.names(Due.at(x, 1, 1, 14, 14), 14);
            Due.names(Due.at(x, 1, 1, 14), 14);
            Due.names(Due.at(x, 14), 1);
        }
    }

    // "A LINK (not on TABLE) has a path."
    private static void linksHaveUpToFiveSteps() {
        for (int format = NODES; format <= LOG; format++) {
            VirtualFiles x = Due.mounted(format);
            for (int steps = 0; steps <= 5; steps++) {
                int[] path = new int[steps];
                Arrays.fill(path, UP);
                Due.is(OK, Due.and(Due.at(x, steps + 1), path).link());
                Due.is(steps, x.about(false, 1));
                Due.is(3, x.about(false, 0));
                Due.is(1, x.about(true, 0));
            }
            // Every step of the five counts.
            VirtualFiles y = Due.mounted(format);
            Due.is(OK, Due.and(Due.at(y, 6), 1, 2, 3, 4, 5).link());
            for (int[] path : new int[][] {{1}, {1, 2}, {1, 2, 3}, {1, 2, 3, 4}}) {
                Due.is(OK, Due.at(y, path).directory());
                Due.is(NOENT, Due.at(y, 6).about(true, 0));
            }
            Due.file(y, 7, 1, 2, 3, 4, 5);
            Due.is(7, Due.at(y, 6).about(true, 1));
        }
        Refusal.is(UNSUPPORTED, () -> Due.and(Due.at(Due.mounted(TABLE), 1), 2), VirtualFiles::link);
    }

    // "An object that has no entry any more is gone when no open file is it."
    private static void goneWithTheLastEntry() {
        for (int format = TABLE; format <= LOG; format++) {
            VirtualFiles x = objects(format, 2, 9);
            Due.is(FULL, Due.at(x, 5).directory());
            Due.is(OK, Due.at(x, 1, 1).remove());
            Due.is(OK, Due.at(x, 5).directory());
            Due.is(OK, Due.at(x, 5).prune());
            Due.is(OK, Due.at(x, 1, 1).directory());
            Due.is(FULL, Due.at(x, 5).directory());
        }
    }

    private static void notGoneWhileOpen() {
        for (int format = TABLE; format <= LOG; format++) {
            for (int how = 0; how <= 3; how++) {
                VirtualFiles x = objects(format, 2, 9);
                Due.is(0, Due.at(x, 1, 1).open(how));
                Due.is(OK, Due.at(x, 1, 1).remove());
                Due.is(NOENT, x.about(true, 0));
                Due.is(FULL, Due.at(x, 5).directory());
                Due.is(OK, x.seek(0, 3));
                Due.is(how == 0 ? BAD : OK, x.write(0, 5));
                Due.is(OK, x.close(0));
                Due.is(BAD, x.close(0));
                Due.is(OK, Due.at(x, 5).directory());
            }
        }
    }

    private static void notGoneWhileAnyHandleIsOpen() {
        for (int format = TABLE; format <= LOG; format++) {
            VirtualFiles x = Due.mounted(format);
            Due.file(x, 4, 1);
            for (int h = 0; h < 5; h++) {
                Due.is(h, Due.at(x, 1).open(0));
            }
            Due.is(0, Due.at(x, 1).remove());
            x.sync(0);
            for (int h : new int[] {2, 0, 4, 1}) {
                Due.is(30, x.free(0));
                Due.is(OK, x.close(h));
            }
            Due.is(30, x.free(0));
            Due.is(1, x.read(3));
            Due.is(OK, x.close(3));
            Due.is(format == LOG ? 30 : 31, x.free(0));
            x.sync(0);
            Due.is(31, x.free(0));
        }
    }

    private static void goneWhenReplaced() {
        for (int format = TABLE; format <= LOG; format++) {
            VirtualFiles x = objects(format, 2, 9);
            Due.is(FULL, Due.at(x, 5).directory());
            Due.is(OK, Due.and(Due.at(x, 1, 1), 1, 2).rename());
            Due.is(OK, Due.at(x, 5).directory());
            Due.is(0, Due.at(x, 1, 4).open(0));
            Due.is(OK, Due.and(Due.at(x, 1, 3), 1, 4).rename());
            Due.is(FULL, Due.at(x, 6).directory());
            Due.is(OK, x.close(0));
            Due.is(OK, Due.at(x, 6).directory());
            Due.is(OK, Due.and(Due.at(x, 5), 6).rename());
            Due.is(OK, Due.at(x, 5).directory());
            Due.is(FULL, Due.at(x, 7).directory());
        }
    }

    // What takes the number of a gone object has nothing of it.
    private static void goneLeavesNothingBehind() {
        for (int format = NODES; format <= LOG; format++) {
            VirtualFiles x = Due.mounted(format);
            Due.file(x, 20, 1);
            Due.is(OK, Due.at(x, 1).remove());
            x.sync(0);
            Due.is(0, Due.at(x, 1).open(1));
            Due.is(0, x.about(true, 1));
            Due.is(0, x.about(true, 3));
            Due.is(OK, x.resize(0, 20));
            for (int i = 0; i < 20; i++) {
                Due.is(0, x.read(0));
            }
            Due.is(OK, x.close(0));
            Due.is(OK, x.remove());
            Due.is(OK, Due.and(Due.at(x, 1), HERE).link());
            Due.is(1, x.about(false, 1));
            Due.is(1, x.about(true, 0));
            Due.is(OK, x.remove());
            Due.is(OK, x.directory());
            Due.is(0, x.about(true, 1));
            Due.is(0, x.name(0));
            Due.is(30, x.free(0));
        }
    }
}
