import java.util.function.ToLongFunction;

/** What promises 10 to 13, 20, 21, 23 and 24 refuse, in its order, and that it changes nothing. */
public final class NameRefusalsTest implements Words {
    private static final int[][] NO_PLACES = {{}, {HERE}, {UP}, {2, UP}, {9, UP}, {3, UP}, {4, UP}, {HERE, UP}};

    public static void main(String[] args) {
        enterWithNothingMounted();
        enterWhatTheWaySays();
        enterNoDirectory();
        directoryRefusals();
        directoryOnAFullDisk();
        linkRefusals();
        linkOnTable();
        linkOnAFullDisk();
        entryWithNothingMounted();
        entryWhatTheWayOfBSays();
        entryForADirectory();
        entryRefusalsForA();
        entryBeforeReadOnlyOrAcross();
        entryAcrossDisks();
        entryUnsupported();
        entryInAFullDirectory();
        removeRefusals();
        removeDirectories();
        removeReadOnly();
        pruneRefusals();
        pruneNoDirectory();
        pruneMountedOrCurrent();
        pruneReadOnly();
        pruneNotEmpty();
        aboutRefusals();
        nameRefusals();
        Due.end();
    }

    private static int[] a(int... steps) {
        return steps;
    }

    /** "BAD if nothing is mounted", whatever the drafts are. */
    private static void badWithNothingMounted(ToLongFunction<VirtualFiles> call) {
        for (int[] a : new int[][] {{}, {HERE}, {UP}, {1}, {1, 1}, {HERE, 1}}) {
            Refusal.is(BAD, () -> Due.and(Due.at(new VirtualFiles(), a), a), call);
        }
    }

    /** "INVALID", before what the way says, and then "what the way to its directory says; NOTDIR if that is none". */
    private static void noPlaceOrNoWay(int[] b, ToLongFunction<VirtualFiles> call) {
        for (int[] a : NO_PLACES) {
            Refusal.is(INVALID, World.crowdedAt(a, b), call);
        }
        Refusal.is(NOENT, World.crowdedAt(a(9, 1), b), call);
        Refusal.is(NOENT, World.crowdedAt(a(2, 9, 1), b), call);
        Refusal.is(NOENT, World.crowdedAt(a(1, 9, 1), b), call);
        Refusal.is(NOTDIR, World.crowdedAt(a(3, 9, 1), b), call);
        Refusal.is(NOTDIR, World.crowdedAt(a(3, UP, 1), b), call);
        Refusal.is(NOTDIR, World.crowdedAt(a(5, UP, 1), b), call);
        Refusal.is(LOOP, World.crowdedAt(a(4, 1), b), call);
        Refusal.is(LOOP, World.crowdedAt(a(4, UP, 3), b), call);
        Refusal.is(NOTDIR, World.crowdedAt(a(3, 1), b), call);
        Refusal.is(NOTDIR, World.crowdedAt(a(5, 1), b), call);
        Refusal.is(NOTDIR, World.crowdedAt(a(2, 2, 1), b), call);
        Refusal.is(NOTDIR, World.crowdedAt(a(1, 3, 1), b), call);
    }

    // Promise 10: "BAD if nothing is mounted"
    private static void enterWithNothingMounted() {
        badWithNothingMounted(VirtualFiles::enter);
    }

    // Promise 10: "what its way says", and that links are followed
    private static void enterWhatTheWaySays() {
        Refusal.is(NOENT, World.crowdedAt(9), VirtualFiles::enter);
        Refusal.is(NOENT, World.crowdedAt(2, 9, UP), VirtualFiles::enter);
        Refusal.is(NOTDIR, World.crowdedAt(3, UP), VirtualFiles::enter);
        Refusal.is(NOTDIR, World.crowdedAt(5, 1), VirtualFiles::enter);
        Refusal.is(LOOP, World.crowdedAt(4), VirtualFiles::enter);
        VirtualFiles x = Due.at(World.crowded(), 2, 3);
        Due.is(OK, x.enter());
        Due.names(Due.at(x, HERE), 1, 2, 3);
    }

    // Promise 10: "NOTDIR"
    private static void enterNoDirectory() {
        Refusal.is(NOTDIR, World.crowdedAt(3), VirtualFiles::enter);
        Refusal.is(NOTDIR, World.crowdedAt(5), VirtualFiles::enter);
        Refusal.is(NOTDIR, World.crowdedAt(1, 2, 2), VirtualFiles::enter);
        Refusal.is(NOTDIR, () -> Due.at(World.crowdedWithin(2), HERE, 2), VirtualFiles::enter);
    }

    /** What directory and link refuse alike, each error with those named after it true as well. */
    private static void makingRefusals(ToLongFunction<VirtualFiles> call) {
        badWithNothingMounted(call);
        noPlaceOrNoWay(a(3), call);
        for (int n = 1; n <= 6; n++) {
            // "EXISTS if it has an equal name", though the disk be read-only or full.
            Refusal.is(EXISTS, World.crowdedAt(a(n), 3), call);
            Refusal.is(EXISTS, World.crowdedAt(a(1, n), 3), call);
        }
        // "READONLY", though the disk be full.
        Refusal.is(READONLY, World.crowdedAt(a(1, 9), 3), call);
        Refusal.is(READONLY, World.crowdedAt(a(1, 2, 9), 3), call);
        Refusal.is(READONLY, World.crowdedAt(a(1, 6, 1), 3), call);
    }

    // Promise 11: "BAD if nothing is mounted; INVALID; what the way to its directory says; NOTDIR if that is none",
    // "EXISTS if it has an equal name; READONLY"
    private static void directoryRefusals() {
        makingRefusals(VirtualFiles::directory);
        Refusal.is(EXISTS, () -> Due.at(World.crowdedTable(), 8), VirtualFiles::directory);
        Refusal.is(EXISTS, () -> Due.at(World.crowdedTable(), 1, 13), VirtualFiles::directory);
        Refusal.is(READONLY, () -> Due.at(World.crowdedTable(), 1, 7), VirtualFiles::directory);
    }

    // Promise 11: "FULL"
    private static void directoryOnAFullDisk() {
        Refusal.is(FULL, World.crowdedAt(9), VirtualFiles::directory);
        Refusal.is(FULL, World.crowdedAt(2, 9), VirtualFiles::directory);
        Refusal.is(FULL, World.crowdedAt(6, 1), VirtualFiles::directory);
        Refusal.is(FULL, () -> Due.at(World.crowdedTable(), 7), VirtualFiles::directory);
        Refusal.is(FULL, () -> Due.at(World.crowdedTable(), 6, 7), VirtualFiles::directory);
    }

    // Promise 12: "Likewise"
    private static void linkRefusals() {
        makingRefusals(VirtualFiles::link);
    }

    // Promise 12: "but UNSUPPORTED on TABLE before FULL", and after all else
    private static void linkOnTable() {
        Refusal.is(UNSUPPORTED, () -> Due.and(Due.at(World.crowdedTable(), 7), 3), VirtualFiles::link);
        Refusal.is(UNSUPPORTED, () -> Due.and(Due.at(World.crowdedTable(), 6, 7), 3), VirtualFiles::link);
        Refusal.is(UNSUPPORTED, () -> Due.at(Due.mounted(TABLE), 7), VirtualFiles::link);
        Refusal.is(INVALID, () -> Due.at(World.crowdedTable(), 6, UP), VirtualFiles::link);
        Refusal.is(NOENT, () -> Due.at(World.crowdedTable(), 7, 1), VirtualFiles::link);
        Refusal.is(NOTDIR, () -> Due.at(World.crowdedTable(), 3, 1), VirtualFiles::link);
        Refusal.is(EXISTS, () -> Due.at(World.crowdedTable(), 10), VirtualFiles::link);
        Refusal.is(READONLY, () -> Due.at(World.crowdedTable(), 1, 7), VirtualFiles::link);
    }

    // Promise 12: "FULL"
    private static void linkOnAFullDisk() {
        Refusal.is(FULL, World.crowdedAt(a(9), 3), VirtualFiles::link);
        Refusal.is(FULL, World.crowdedAt(a(2, 9), 3), VirtualFiles::link);
        Refusal.is(FULL, () -> Due.and(Due.at(World.crowded(LOG), 6, 1), 3), VirtualFiles::link);
    }

    // Promise 13: "BAD if nothing is mounted"
    private static void entryWithNothingMounted() {
        badWithNothingMounted(VirtualFiles::entry);
    }

    // Promise 13: "what B's way says", before what is wrong with A; B's last link is not followed
    private static void entryWhatTheWayOfBSays() {
        for (int[] a : new int[][] {{}, {9, 9}, {3}, {9}}) {
            Refusal.is(NOENT, World.crowdedAt(a, 9), VirtualFiles::entry);
            Refusal.is(NOENT, World.crowdedAt(a, 2, 9, UP), VirtualFiles::entry);
            Refusal.is(NOTDIR, World.crowdedAt(a, 3, UP), VirtualFiles::entry);
            Refusal.is(NOTDIR, World.crowdedAt(a, 5, 3), VirtualFiles::entry);
            Refusal.is(LOOP, World.crowdedAt(a, 4, 3), VirtualFiles::entry);
        }
        Refusal.is(UNSUPPORTED, World.crowdedAt(a(9), 4), VirtualFiles::entry);
    }

    // Promise 13: "ISDIR if it is a directory", before what is wrong with A
    private static void entryForADirectory() {
        for (int[] b : new int[][] {{}, {HERE}, {UP}, {1}, {2}, {2, 1}, {1, 6}, {2, 3, 1}}) {
            Refusal.is(ISDIR, World.crowdedAt(a(), b), VirtualFiles::entry);
            Refusal.is(ISDIR, World.crowdedAt(a(9, 9), b), VirtualFiles::entry);
            Refusal.is(ISDIR, World.crowdedAt(a(3, 9), b), VirtualFiles::entry);
            Refusal.is(ISDIR, World.crowdedAt(a(3), b), VirtualFiles::entry);
            Refusal.is(ISDIR, World.crowdedAt(a(1, 9), b), VirtualFiles::entry);
        }
    }

    // Promise 13: "then as for directory()": INVALID, the way, NOTDIR
    private static void entryRefusalsForA() {
        noPlaceOrNoWay(a(3), VirtualFiles::entry);
        noPlaceOrNoWay(a(1, 5), VirtualFiles::entry);
    }

    // Promise 13: "as for directory() up to READONLY", before CROSS, UNSUPPORTED and FULL
    private static void entryBeforeReadOnlyOrAcross() {
        for (int[] b : new int[][] {{3}, {5}, {1, 3}, {1, 5}, {2, 2}}) {
            Refusal.is(EXISTS, World.crowdedAt(a(2), b), VirtualFiles::entry);
            Refusal.is(EXISTS, World.crowdedAt(a(3), b), VirtualFiles::entry);
            Refusal.is(EXISTS, World.crowdedAt(a(1, 3), b), VirtualFiles::entry);
            Refusal.is(READONLY, World.crowdedAt(a(1, 9), b), VirtualFiles::entry);
            Refusal.is(READONLY, World.crowdedAt(a(1, 6, 9), b), VirtualFiles::entry);
        }
        Refusal.is(EXISTS, () -> Due.and(Due.at(World.crowdedTable(), 9), 3), VirtualFiles::entry);
        Refusal.is(READONLY, () -> Due.and(Due.at(World.crowdedTable(), 1, 7), 3), VirtualFiles::entry);
    }

    // Promise 13: "CROSS if B is on another disk", before UNSUPPORTED and FULL
    private static void entryAcrossDisks() {
        Refusal.is(CROSS, World.crowdedAt(a(9), 1, 3), VirtualFiles::entry);
        Refusal.is(CROSS, World.crowdedAt(a(9), 1, 5), VirtualFiles::entry);
        Refusal.is(CROSS, World.crowdedAt(a(6, 1), 1, 3), VirtualFiles::entry);
        Refusal.is(CROSS, () -> Due.and(Due.at(World.crowdedTable(), 7), 1, 3), VirtualFiles::entry);
        Refusal.is(CROSS, () -> Due.and(Due.at(World.crowded(LOG), 6, 1), 1, 3), VirtualFiles::entry);
    }

    // Promise 13: "UNSUPPORTED if that is not NODES or B is a link", before FULL
    private static void entryUnsupported() {
        Refusal.is(UNSUPPORTED, () -> Due.and(Due.at(World.crowdedTable(), 7), 3), VirtualFiles::entry);
        Refusal.is(UNSUPPORTED, () -> Due.and(Due.at(World.crowdedTable(), 6, 7), 3), VirtualFiles::entry);
        Refusal.is(UNSUPPORTED, () -> Due.and(Due.at(World.crowded(LOG), 9), 3), VirtualFiles::entry);
        Refusal.is(UNSUPPORTED, () -> Due.and(Due.at(World.crowded(LOG), 6, 1), 5), VirtualFiles::entry);
        Refusal.is(UNSUPPORTED, World.crowdedAt(a(9), 5), VirtualFiles::entry);
        Refusal.is(UNSUPPORTED, World.crowdedAt(a(6, 1), 2, 3), VirtualFiles::entry);
    }

    // Promise 13: "FULL", which here is a seventh entry alone
    private static void entryInAFullDirectory() {
        Refusal.is(FULL, World.crowdedAt(a(9), 3), VirtualFiles::entry);
        Refusal.is(FULL, World.crowdedAt(a(HERE, 14), 2, 2), VirtualFiles::entry);
        VirtualFiles x = World.crowded();
        for (int n = 4; n <= 6; n++) {
            Due.is(OK, Due.and(Due.at(x, 2, n), 3).entry());
        }
        Due.is(FULL, Due.and(Due.at(x, 2, 7), 3).entry());
        Due.is(4, Due.at(x, 3).about(true, 2));
    }

    /** What remove and prune refuse alike; "NOENT if there is no such entry" stands before READONLY. */
    private static void takingAwayRefusals(ToLongFunction<VirtualFiles> call) {
        badWithNothingMounted(call);
        noPlaceOrNoWay(a(), call);
        for (int[] path : new int[][] {{9}, {10}, {13}, {6, 1}, {1, 9}}) {
            Refusal.is(NOENT, World.crowdedAt(path), call);
        }
    }

    // Promise 20: "BAD if nothing is mounted; INVALID if A has no place; what the way to its directory says, NOTDIR; NOENT"
    private static void removeRefusals() {
        takingAwayRefusals(VirtualFiles::remove);
    }

    // Promise 20: "ISDIR", before READONLY
    private static void removeDirectories() {
        for (int[] path : new int[][] {{1}, {2}, {2, 1}, {6}, {1, 2}, {1, 6}, {2, 3, 1}}) {
            Refusal.is(ISDIR, World.crowdedAt(path), VirtualFiles::remove);
        }
        Refusal.is(ISDIR, () -> Due.at(World.crowdedTable(), 13), VirtualFiles::remove);
    }

    // Promise 20: "READONLY"
    private static void removeReadOnly() {
        for (int[] path : new int[][] {{1, 3}, {1, 4}, {1, 5}, {1, 2, 2}, {1, 2, 3}}) {
            Refusal.is(READONLY, World.crowdedAt(path), VirtualFiles::remove);
        }
        Refusal.is(READONLY, () -> Due.at(World.crowdedTable(), 1, 10), VirtualFiles::remove);
    }

    // Promise 21: "BAD, INVALID, what the way says, NOTDIR, NOENT likewise"
    private static void pruneRefusals() {
        takingAwayRefusals(VirtualFiles::prune);
    }

    // Promise 21: "NOTDIR if it is none", before READONLY; a link to a directory is none
    private static void pruneNoDirectory() {
        for (int[] path : new int[][] {{3}, {4}, {5}, {2, 2}, {2, 3}, {1, 3}, {1, 2, 3}}) {
            Refusal.is(NOTDIR, World.crowdedAt(path), VirtualFiles::prune);
        }
    }

    /** The copy on directory 1 has disk 2 on its directory 2, which is not empty, and on its empty directory 6 disk 3. */
    private static VirtualFiles mountedOnCopy() {
        VirtualFiles x = World.crowded();
        Due.is(OK, Due.at(x, 1, 2).mount(2));
        Due.is(OK, Due.at(x, 1, 6).mount(3));
        return x;
    }

    /** The directory 2, which is not empty, with disk 2 on it. */
    private static VirtualFiles mountedOnNotEmpty() {
        VirtualFiles x = World.crowded();
        Due.is(OK, Due.at(x, 2).mount(2));
        return x;
    }

    // Promise 21: "BUSY if a disk is mounted on it or it is the current directory", before READONLY and NOTEMPTY
    private static void pruneMountedOrCurrent() {
        Refusal.is(BUSY, World.crowdedAt(1), VirtualFiles::prune);
        Refusal.is(BUSY, () -> Due.at(mountedOnNotEmpty(), 2), VirtualFiles::prune);
        Refusal.is(BUSY, () -> Due.at(mountedOnCopy(), 1, 2), VirtualFiles::prune);
        Refusal.is(BUSY, () -> Due.at(mountedOnCopy(), 1, 6), VirtualFiles::prune);
        Refusal.is(BUSY, () -> Due.at(World.crowdedWithin(6), 6), VirtualFiles::prune);
        Refusal.is(BUSY, () -> Due.at(World.crowdedWithin(6), HERE, UP, 6), VirtualFiles::prune);
        Refusal.is(BUSY, () -> Due.at(World.crowdedWithin(2), 2), VirtualFiles::prune);
        Refusal.is(BUSY, () -> Due.at(World.crowdedWithin(1, 6), 1, 6), VirtualFiles::prune);
        Refusal.is(BUSY, () -> Due.at(World.crowdedWithin(1, 2), 1, 2), VirtualFiles::prune);
        // The one above the current directory is not it.
        Refusal.is(NOTEMPTY, () -> Due.at(World.crowdedWithin(2, 1), 2), VirtualFiles::prune);
    }

    // Promise 21: "READONLY", before NOTEMPTY
    private static void pruneReadOnly() {
        Refusal.is(READONLY, World.crowdedAt(1, 6), VirtualFiles::prune);
        Refusal.is(READONLY, World.crowdedAt(1, 2), VirtualFiles::prune);
        Refusal.is(READONLY, World.crowdedAt(1, 1), VirtualFiles::prune);
    }

    // Promise 21: "NOTEMPTY"
    private static void pruneNotEmpty() {
        Refusal.is(NOTEMPTY, World.crowdedAt(2), VirtualFiles::prune);
        VirtualFiles x = World.crowded();
        Due.is(OK, Due.at(x, 2, 1).prune());
        Due.is(OK, Due.at(x, 2, 2).remove());
        Due.is(NOTEMPTY, Due.at(x, 2).prune());
        Due.is(OK, Due.at(x, 2, 3).remove());
        Due.is(OK, Due.at(x, 2).prune());
        Due.names(Due.at(x), 1, 3, 4, 5, 6);
    }

    // Promise 23: "BAD if nothing is mounted or what is outside; what the way says"
    private static void aboutRefusals() {
        for (boolean follow : new boolean[] {false, true}) {
            for (int what = 0; what <= 4; what++) {
                int wanted = what;
                badWithNothingMounted(x -> x.about(follow, wanted));
                Refusal.is(NOENT, World.crowdedAt(9), x -> x.about(follow, wanted));
                Refusal.is(NOENT, World.crowdedAt(2, 9, UP), x -> x.about(follow, wanted));
                Refusal.is(NOTDIR, World.crowdedAt(3, UP), x -> x.about(follow, wanted));
                Refusal.is(NOTDIR, World.crowdedAt(5, 1), x -> x.about(follow, wanted));
                Refusal.is(LOOP, World.crowdedAt(4, 1), x -> x.about(follow, wanted));
            }
            for (int what : new int[] {-1, 5, LEAST, GREATEST}) {
                Refusal.is(BAD, World.crowdedAt(2), x -> x.about(follow, what));
                Refusal.is(BAD, World.crowdedAt(9), x -> x.about(follow, what));
                Refusal.is(BAD, World.crowdedAt(3, 1), x -> x.about(follow, what));
            }
        }
        Refusal.is(LOOP, World.crowdedAt(4), x -> x.about(true, 0));
        Due.is(3, World.crowdedAt(4).get().about(false, 0));
    }

    // Promise 24: "0 if there is none; BAD if nothing is mounted; what the way says; NOTDIR"
    private static void nameRefusals() {
        for (int k : new int[] {0, 5, 6, -1, LEAST, GREATEST}) {
            badWithNothingMounted(x -> x.name(k));
            Refusal.is(NOENT, World.crowdedAt(9), x -> x.name(k));
            Refusal.is(NOTDIR, World.crowdedAt(3, UP), x -> x.name(k));
            Refusal.is(LOOP, World.crowdedAt(4), x -> x.name(k));
            Refusal.is(NOTDIR, World.crowdedAt(3), x -> x.name(k));
            Refusal.is(NOTDIR, World.crowdedAt(5), x -> x.name(k));
            Refusal.is(0, World.crowdedAt(6), x -> x.name(k));
        }
        for (int k : new int[] {6, 7, 14, -1, LEAST, GREATEST}) {
            Refusal.is(0, World.crowdedAt(), x -> x.name(k));
        }
        Due.is(6, World.crowdedAt().get().name(5));
    }
}
