import java.util.Arrays;
import java.util.List;
import java.util.function.ToLongFunction;

/** "Terms", on paths, ways, links and places. */
public final class WaysTest implements Words {
    public static void main(String[] args) {
        fiveSteps();
        beginsAtTheCurrentDirectoryOrTheTop();
        topIsTheDiskMountedFirst();
        noDirectoryReached();
        upToTheDirectoryWithTheEntry();
        upAfterTheDirectoryHasMoved();
        upFromTheRootOfAMountedDisk();
        upStaysAtTheTop();
        noEntry();
        nameToTheRootOfAMountedDisk();
        hereAndUpToACoveredDirectory();
        lastLinkIsFollowedOrNot();
        otherLinksAreFollowed();
        linkBeginsAtItsDirectory();
        linkBeginsAtTheTop();
        linkWithoutSteps();
        linkThatEndsWithALink();
        linkThatLeadsNowhere();
        fourLinksOneAfterAnother();
        fourLinksOneInAnother();
        longestWay();
        linksToThemselves();
        linksOfEachPathCountAlone();
        lastLinkOfAPlaceIsNotFollowed();
        pathsWithoutSteps();
        noPlace();
        placesBehindLinksAndUp();
        operationsLeaveTheDrafts();
        Due.end();
    }

    private static void link(VirtualFiles x, int[] at, int... steps) {
        Due.is(OK, Due.and(Due.at(x, at), steps).link());
    }

    private static int[] at(int... steps) {
        return steps;
    }

    /** Directories one below the other, 1, 1/2, 1/2/3, 1/2/3/4, the last with the file 5 of three ints. */
    private static VirtualFiles deep(int format) {
        VirtualFiles x = Due.mounted(format);
        for (int depth = 1; depth <= 4; depth++) {
            Due.is(OK, Due.at(x, Arrays.copyOf(at(1, 2, 3, 4), depth)).directory());
        }
        Due.file(x, 3, 1, 2, 3, 4, 5);
        return x;
    }

    // "up to 5 STEPS"
    private static void fiveSteps() {
        VirtualFiles x = Due.at(deep(TABLE), 1, 2, 3, 4, 5);
        Due.is(3, x.about(true, 1));
        Due.no(x.step(false, 6));
        Due.is(3, x.about(true, 1));
        Due.is(OK, Due.at(x, HERE, 1, 2, 3, 4).enter());
        Due.is(3, Due.at(x, HERE, 5).about(true, 1));
        Due.is(OK, Due.at(x, HERE, UP, UP, UP, 6).directory());
        Due.names(Due.at(x, 1), 2, 6);
    }

    // "A path begins at the current directory if it begins with HERE, else at the top"
    private static void beginsAtTheCurrentDirectoryOrTheTop() {
        VirtualFiles x = deep(NODES);
        Due.is(OK, Due.at(x, 1, 2).enter());
        Due.is(OK, Due.at(x, 3).directory());
        Due.names(Due.at(x), 1, 3);
        Due.names(Due.at(x, 3));
        Due.names(Due.at(x, HERE, 3), 4);
        Due.names(Due.at(x, HERE), 3);
        Due.names(Due.at(x, UP), 1, 3);
        Due.names(Due.at(x, HERE, UP), 2);
        // It is the current directory when the path is used, not when it is drafted.
        Due.at(x, HERE);
        Due.yes(x.step(false, 3));
        Due.is(OK, x.enter());
        Due.is(NOENT, x.enter());
        Due.names(Due.at(x, HERE), 4);
    }

    // "the top (the root of the disk mounted first)"
    private static void topIsTheDiskMountedFirst() {
        for (int first = 0; first < 4; first++) {
            VirtualFiles x = new VirtualFiles();
            Due.is(OK, x.mount(first));
            Due.is(OK, Due.at(x, 1).directory());
            int second = (first + 1) % 4;
            Due.is(OK, Due.at(x, 1).mount(second));
            Due.is(OK, Due.at(x, 1).enter());
            Due.is(first, Due.at(x).about(true, 4));
            Due.is(first, Due.at(x, UP).about(true, 4));
            Due.is(second, Due.at(x, HERE).about(true, 4));
            Due.is(first, Due.at(x, HERE, UP).about(true, 4));
        }
    }

    // "Each further step goes on from the directory D that has been reached (NOTDIR if it is none)"
    private static void noDirectoryReached() {
        for (int s = 1; s <= 15; s++) {
            VirtualFiles x = deep(NODES);
            Due.file(x, 1, 6);
            link(x, at(7), 6);
            link(x, at(8), 6, UP);
            for (boolean follow : new boolean[] {false, true}) {
                Due.is(NOTDIR, Due.at(x, 6, s).about(follow, 0));
                Due.is(NOTDIR, Due.at(x, 7, s).about(follow, 0));
                Due.is(NOTDIR, Due.at(x, HERE, 6, s, UP).about(follow, 0));
                Due.is(NOTDIR, Due.at(x, 8, s).about(follow, 0));
            }
            Due.is(NOTDIR, Due.at(x, 8).about(true, 0));
            Due.is(3, Due.at(x, 8).about(false, 0));
            Due.is(2, Due.at(x, 6).about(false, 0));
        }
    }

    // "UP to the directory that has an entry for D"
    private static void upToTheDirectoryWithTheEntry() {
        for (int format = TABLE; format <= LOG; format++) {
            VirtualFiles x = deep(format);
            Due.names(Due.at(x, 1, 2, 3, 4, UP), 4);
            Due.names(Due.at(x, 1, 2, 3, UP, UP), 2);
            Due.names(Due.at(x, 1, 2, UP, UP), 1);
            Due.names(Due.at(x, 1, UP, 1, 2, UP), 2);
            Due.is(OK, Due.at(x, 1, 2, 3, 4).enter());
            Due.names(Due.at(x, HERE, UP), 4);
            Due.names(Due.at(x, HERE, UP, UP), 3);
            Due.names(Due.at(x, HERE, UP, UP, UP), 2);
            Due.names(Due.at(x, HERE, UP, UP, UP, UP), 1);
        }
    }

    private static void upAfterTheDirectoryHasMoved() {
        VirtualFiles x = deep(LOG);
        Due.is(OK, Due.at(x, 1, 2, 3).enter());
        Due.is(OK, Due.and(Due.at(x, 1, 2, 3), 9).rename());
        Due.names(Due.at(x, HERE, UP), 1, 9);
        Due.names(Due.at(x, HERE), 4);
        Due.is(OK, Due.and(Due.at(x, 1), 9, 1).rename());
        Due.names(Due.at(x, 9, 1, UP), 1, 4);
        Due.names(Due.at(x, 9, 1, 2, UP, UP), 1, 4);
        Due.names(Due.at(x, HERE, UP), 9);
    }

    /** Disk 0 at the top, disk 1 on its directory 1/2, disk 2 on disk 1's directory 3, disk 3 on disk 2's directory 4. */
    private static VirtualFiles fourDisks() {
        VirtualFiles x = Due.mounted(NODES);
        Due.directories(x, 1);
        Due.is(OK, Due.at(x, 1, 2).directory());
        Due.is(OK, Due.at(x, 1, 2).mount(1));
        Due.is(OK, Due.at(x, 1, 2, 3).directory());
        Due.is(OK, Due.at(x, 1, 2, 3).mount(2));
        Due.is(OK, Due.at(x, 1, 2, 3, 4).directory());
        Due.is(OK, Due.at(x, 1, 2, 3, 4).mount(3));
        Due.is(OK, Due.at(x, 1, 2, 3, 4).enter());
        return x;
    }

    // "if D is the root of a disk, to the one that has the entry for the directory on which that disk is mounted (and so on)"
    private static void upFromTheRootOfAMountedDisk() {
        VirtualFiles x = fourDisks();
        int[] disks = {3, 2, 1, 0, 0};
        for (int ups = 0; ups <= 4; ups++) {
            int[] path = new int[ups + 1];
            Arrays.fill(path, 1, ups + 1, UP);
            Due.is(disks[ups], Due.at(x, path).about(true, 4));
        }
        Due.names(Due.at(x, HERE, UP), 4);
        Due.names(Due.at(x, HERE, UP, UP), 3);
        Due.names(Due.at(x, HERE, UP, UP, UP), 2);
        Due.names(Due.at(x, HERE, UP, UP, UP, UP), 1);
        Due.names(Due.at(x, 1, 2, UP), 2);
        Due.names(Due.at(x, 1, 2, UP, UP), 1);
        // The way down again leads to the same roots.
        Due.is(3, Due.at(x, HERE, UP, UP, 3, 4).about(true, 4));
        Due.is(OK, Due.at(x, HERE, UP).enter());
        Due.is(OK, x.unmount(3));
        Due.is(OK, Due.at(x, 1, 2, 3, 4, 6).directory());
        Due.is(2, x.about(true, 4));
    }

    // "at the top it stays"
    private static void upStaysAtTheTop() {
        for (int ups = 1; ups <= 5; ups++) {
            int[] path = new int[ups];
            Arrays.fill(path, UP);
            VirtualFiles x = deep(NODES);
            Due.names(Due.at(x, path), 1);
            Due.is(0, x.about(true, 2));
            Due.is(OK, x.enter());
            Due.names(Due.at(x, HERE, UP), 1);
        }
        Due.names(Due.at(deep(TABLE), UP, UP, UP, UP, 1), 2);
        Due.is(OK, Due.at(deep(TABLE), HERE, UP, UP, UP, 7).directory());
    }

    // "A name to the object whose entry in D has an equal name (NOENT if there is none)"
    private static void noEntry() {
        for (int format = TABLE; format <= LOG; format++) {
            VirtualFiles x = deep(format);
            for (int n = 1; n <= 14; n++) {
                boolean found = n == 1 || (n == 8 && format == TABLE);
                Due.is(found ? 1 : NOENT, Due.at(x, n).about(false, 0));
                Due.is(found ? 1 : NOENT, Due.at(x, n, UP).about(false, 0));
                boolean foundBelow = n == 5 || (n == 12 && format == TABLE);
                Due.is(foundBelow ? 2 : NOENT, Due.at(x, 1, 2, 3, 4, n).about(true, 0));
            }
        }
    }

    // "if that is a directory on which a disk is mounted to that disk's root"
    private static void nameToTheRootOfAMountedDisk() {
        VirtualFiles x = fourDisks();
        Due.is(1, Due.at(x, 1, 2).about(false, 4));
        Due.is(2, Due.at(x, 1, 2, 3).about(false, 4));
        Due.is(3, Due.at(x, 1, 2, 3, 4).about(false, 4));
        Due.is(0, Due.at(x, 1, 2).about(false, 2));
        Due.is(3, Due.at(x, HERE).about(true, 4));
        link(x, at(5), 1, 2, 3);
        Due.is(2, Due.at(x, 5).about(true, 4));
        Due.is(3, Due.at(x, 5, 4).about(true, 4));
        Due.is(1, Due.at(x, 5, UP).about(true, 4));
        // What stands in the directory below is there again when the disk is gone.
        Due.is(OK, Due.at(x).enter());
        Due.is(OK, x.unmount(3));
        Due.is(OK, x.unmount(2));
        Due.is(OK, Due.at(x, 1, 2, 3, 6).directory());
        Due.is(OK, Due.at(x, 1, 2, 3).mount(2));
        Due.is(NOENT, Due.at(x, 1, 2, 3, 6).about(true, 0));
        Due.is(OK, x.unmount(2));
        Due.is(1, Due.at(x, 1, 2, 3, 6).about(true, 4));
    }

    // Promise 5: "(only HERE and UP can lead to such a directory)"
    private static void hereAndUpToACoveredDirectory() {
        VirtualFiles x = deep(NODES);
        Due.is(OK, Due.at(x, 1, 2).enter());
        Due.is(OK, Due.at(x, HERE).mount(1));
        Due.is(OK, Due.at(x, HERE, UP).mount(2));
        Due.names(Due.at(x, HERE), 3);
        Due.names(Due.at(x, HERE, UP), 2);
        Due.names(Due.at(x, HERE, 3, UP), 3);
        Due.names(Due.at(x, HERE, UP, UP), 1);
        Due.is(2, Due.at(x, HERE, UP, UP, 1).about(true, 4));
        Due.is(1, Due.at(x, HERE, UP, 2).about(true, 4));
        Due.is(OK, Due.at(x, HERE, 7).directory());
        Due.names(Due.at(x, HERE), 3, 7);
        Due.is(0, Due.at(x, HERE, 7).about(true, 4));
        Due.is(1, Due.at(x, HERE, UP).about(true, 2));
    }

    // "If it is a link, and it is not the last step or links are FOLLOWED"
    private static void lastLinkIsFollowedOrNot() {
        for (int format = NODES; format <= LOG; format++) {
            VirtualFiles x = deep(format);
            link(x, at(6), 1, 2, 3, 4, 5);
            link(x, at(1, 7), HERE, 2);
            Due.is(3, Due.at(x, 6).about(false, 0));
            Due.is(5, x.about(false, 1));
            Due.is(2, x.about(true, 0));
            Due.is(3, x.about(true, 1));
            Due.is(3, Due.at(x, HERE, 1, 7).about(false, 0));
            Due.is(1, x.about(true, 0));
            Due.names(x, 3);
            Due.is(0, Due.at(x, 6).open(0));
            Due.is(1, x.read(0));
            Due.is(OK, Due.at(x, 1, 7).enter());
            Due.names(Due.at(x, HERE), 3);
        }
    }

    private static void otherLinksAreFollowed() {
        VirtualFiles x = deep(NODES);
        link(x, at(6), 1, 2);
        link(x, at(1, 2, 7), HERE, 3);
        for (boolean follow : new boolean[] {false, true}) {
            Due.is(1, Due.at(x, 6, 3).about(follow, 0));
            Due.is(2, Due.at(x, 6, 3, 4, 5).about(follow, 0));
            Due.is(1, Due.at(x, 6, UP).about(follow, 0));
            Due.is(1, Due.at(x, 6, 7, 4).about(follow, 0));
            Due.is(2, Due.at(x, 6, 7, 4, 5).about(follow, 0));
            Due.is(NOENT, Due.at(x, 6, 7, 5).about(follow, 0));
        }
        Due.names(Due.at(x, 6, UP), 2);
        Due.names(Due.at(x, 6, 7), 4);
        Due.is(3, Due.at(x, 6, 7).about(false, 0));
    }

    // "the link's steps stand in its place: from D if they begin with HERE"
    private static void linkBeginsAtItsDirectory() {
        VirtualFiles x = deep(NODES);
        link(x, at(1, 2, 3, 9), HERE, UP, UP);
        link(x, at(1, 2, 8), HERE, 3, 4);
        Due.is(OK, Due.at(x, 1, 2, 3, 4).enter());
        Due.names(Due.at(x, 1, 2, 3, 9), 2);
        Due.names(Due.at(x, 1, 2, 3, 9, 2), 3, 8);
        Due.names(Due.at(x, 1, 2, 8), 5);
        Due.names(Due.at(x, HERE, UP, 9), 2);
        // From the directory in which it is found, also on another disk.
        Due.is(OK, x.make(1, LOG));
        Due.is(OK, Due.at(x, 1, 2, 3, 4).mount(1));
        link(x, at(1, 2, 3, 4, 1), HERE, UP);
        Due.names(Due.at(x, 1, 2, 3, 4, 1), 4, 9);
        Due.is(OK, Due.at(x, 1, 2, 3, 4, 2).directory());
        Due.is(OK, Due.at(x, 1, 2, 3, 4).enter());
        link(x, at(HERE, 3), HERE, 2);
        Due.is(1, Due.at(x, HERE, 3).about(true, 4));
        Due.names(x);
    }

    // "else from the top"
    private static void linkBeginsAtTheTop() {
        VirtualFiles x = deep(NODES);
        link(x, at(1, 2, 9), 1);
        link(x, at(1, 2, 8), UP, 1, 2);
        Due.names(Due.at(x, 1, 2, 9), 2);
        Due.names(Due.at(x, 1, 2, 8), 3, 8, 9);
        Due.is(OK, Due.at(x, 1, 2).enter());
        Due.names(Due.at(x, HERE, 9), 2);
        Due.names(Due.at(x, HERE, 8, 3), 4);
        // The top, not the root of the link's own disk.
        Due.is(OK, x.make(1, NODES));
        Due.is(OK, Due.at(x, 1, 2, 3).mount(1));
        link(x, at(1, 2, 3, 9), 1);
        Due.is(0, Due.at(x, 1, 2, 3, 9).about(true, 4));
        Due.names(x, 2);
    }

    private static void linkWithoutSteps() {
        VirtualFiles x = deep(LOG);
        link(x, at(1, 2, 9));
        link(x, at(1, 2, 8), HERE);
        Due.is(0, Due.at(x, 1, 2, 9).about(false, 1));
        Due.is(1, Due.at(x, 1, 2, 8).about(false, 1));
        Due.names(Due.at(x, 1, 2, 9), 1);
        Due.names(Due.at(x, 1, 2, 8), 3, 8, 9);
        Due.names(Due.at(x, 1, 2, 9, 1), 2);
        Due.names(Due.at(x, 1, 2, 8, 3), 4);
        Due.names(Due.at(x, 1, 2, 8, UP), 2);
        Due.names(Due.at(x, 1, 2, 9, UP), 1);
        Due.is(3, Due.at(x, 1, 2, 9).about(false, 0));
    }

    private static void linkThatEndsWithALink() {
        VirtualFiles x = deep(NODES);
        link(x, at(6), 7);
        link(x, at(7), 1, 2);
        Due.is(3, Due.at(x, 6).about(false, 0));
        Due.is(1, x.about(false, 1));
        Due.names(x, 3);
        for (boolean follow : new boolean[] {false, true}) {
            Due.is(1, Due.at(x, 6, 3).about(follow, 0));
            Due.is(1, Due.at(x, 6, UP).about(follow, 0));
        }
        // As a place it stands for the directory behind both.
        Due.is(OK, Due.at(x, 6, 9).directory());
        Due.names(Due.at(x, 1, 2), 3, 9);
    }

    private static void linkThatLeadsNowhere() {
        VirtualFiles x = deep(NODES);
        link(x, at(6), 9);
        link(x, at(7), 1, 2, 3, 4, 5);
        link(x, at(8), 7, 1);
        Due.is(NOENT, Due.at(x, 6).about(true, 0));
        Due.is(NOENT, Due.at(x, 6, UP).about(false, 0));
        Due.is(NOTDIR, Due.at(x, 7, UP).about(false, 0));
        Due.is(NOTDIR, Due.at(x, 8).about(true, 0));
        Due.is(3, Due.at(x, 8).about(false, 0));
        // It is looked up when the way is gone, not when the link is made.
        Due.is(OK, Due.at(x, 9).directory());
        Due.is(1, Due.at(x, 6).about(true, 0));
    }

    // "More than 4 links on one way are LOOP."
    private static void fourLinksOneAfterAnother() {
        for (int format = NODES; format <= LOG; format++) {
            VirtualFiles x = deep(format);
            link(x, at(6), HERE);
            for (boolean follow : new boolean[] {false, true}) {
                Due.is(1, Due.at(x, 6, 6, 6, 6, 1).about(follow, 0));
                Due.is(1, Due.at(x, HERE, 6, 6, 6, 1).about(follow, 0));
            }
            Due.is(1, Due.at(x, 6, 6, 6, 6).about(true, 0));
            Due.is(LOOP, Due.at(x, 6, 6, 6, 6, 6).about(true, 0));
            // The last one is not followed, so that four are.
            Due.is(3, Due.at(x, 6, 6, 6, 6, 6).about(false, 0));
        }
    }

    /** Links 6 to 6 + count - 1 at the top of a disk with directory 1, each to the next one, and the last to directory 1. */
    private static VirtualFiles chain(int format, int count) {
        VirtualFiles x = Due.mounted(format);
        Due.directories(x, 1);
        for (int i = 0; i < count; i++) {
            link(x, at(6 + i), i == count - 1 ? 1 : 7 + i);
        }
        return x;
    }

    private static void fourLinksOneInAnother() {
        for (int format = NODES; format <= LOG; format++) {
            for (int count = 1; count <= 5; count++) {
                VirtualFiles x = chain(format, count);
                Due.is(count <= 4 ? 1 : LOOP, Due.at(x, 6).about(true, 0));
                Due.is(count <= 4 ? 1 : LOOP, Due.at(x, 6, UP).about(false, 0));
                Due.is(3, Due.at(x, 6).about(false, 0));
                Due.is(count <= 4 ? OK : LOOP, Due.at(x, 6).enter());
                Due.is(count <= 4 ? OK : LOOP, Due.at(x, 6, 2).directory());
                Due.is(count <= 3 ? 1 : LOOP, Due.at(x, 6, UP, 6 + count - 1, UP, 1).about(true, 0));
            }
        }
    }

    // Five steps, four of them links or leading to links of five steps each: every one of the 25 steps is gone.
    private static void longestWay() {
        for (int format = NODES; format <= LOG; format++) {
            VirtualFiles x = Due.mounted(format);
            link(x, at(1), UP, UP, UP, UP, 2);
            link(x, at(2), HERE, UP, UP, UP, 3);
            link(x, at(3), UP, UP, UP, UP, 4);
            link(x, at(4), UP, UP, UP, UP, 5);
            Due.file(x, 3, 5);
            Due.is(2, Due.at(x, UP, UP, UP, UP, 1).about(true, 0));
            Due.is(OK, Due.at(x, 2).remove());
            link(x, at(2), UP, UP, UP, UP, 3);
            Due.is(2, Due.at(x, UP, UP, UP, UP, 1).about(true, 0));
            Due.is(3, Due.at(x, UP, UP, UP, UP, 1).about(true, 1));
            Due.is(NOTDIR, Due.at(x, UP, UP, UP, 1, 6).about(true, 0));
            Due.is(OK, Due.at(x, 5).remove());
            Due.is(NOENT, Due.at(x, UP, UP, UP, UP, 1).about(true, 0));
            Due.is(NOENT, Due.at(x, UP, UP, UP, 1, 6).about(true, 0));
            Due.is(OK, Due.at(x, 5).directory());
            Due.is(NOENT, Due.at(x, UP, UP, UP, 1, 6).about(true, 0));
            Due.file(x, 4, 5, 6);
            Due.is(4, Due.at(x, UP, UP, UP, 1, 6).about(true, 1));
            Due.is(4, Due.at(x, 1, UP, UP, 5, 6).about(true, 1));
        }
    }

    private static void linksToThemselves() {
        VirtualFiles x = Due.mounted(LOG);
        link(x, at(1), 1);
        link(x, at(2), 3);
        link(x, at(3), HERE, 2);
        link(x, at(4), 4, 4, 4, 4, 4);
        link(x, at(5), HERE, 5, UP);
        for (int n = 1; n <= 5; n++) {
            Due.is(LOOP, Due.at(x, n).about(true, 0));
            Due.is(LOOP, Due.at(x, n, 1).about(false, 0));
            Due.is(LOOP, Due.at(x, n, UP, UP, UP, UP).about(false, 0));
            Due.is(3, Due.at(x, n).about(false, 0));
            Due.is(LOOP, Due.at(x, n).open(1));
            Due.is(LOOP, Due.at(x, n).enter());
            Due.is(LOOP, Due.at(x, n).name(0));
            Due.is(LOOP, Due.at(x, n).mount(1));
        }
    }

    private static void linksOfEachPathCountAlone() {
        VirtualFiles x = chain(NODES, 4);
        Due.file(x, 2, 1, 5);
        Due.is(OK, Due.and(Due.at(x, 6, 3), 6, 5).entry());
        Due.is(OK, Due.and(Due.at(x, 6, 3), 6, 4).rename());
        Due.names(Due.at(x, 6), 4, 5);
        Due.is(2, Due.at(x, 6, 4).about(true, 2));
    }

    private static void lastLinkOfAPlaceIsNotFollowed() {
        VirtualFiles x = chain(NODES, 4);
        link(x, at(1, 2), 9);
        Due.is(3, Due.at(x, 6, 2).about(false, 0));
        Due.is(LOOP, Due.at(x, 6, 2).about(true, 0));
        Due.is(EXISTS, Due.at(x, 6, 2).directory());
        Due.is(NOTDIR, Due.at(x, 6, 2).prune());
        Due.is(UNSUPPORTED, Due.and(Due.at(x, 6, 3), 6, 2).entry());
        Due.is(OK, Due.and(Due.at(x, 6, 2), 6, 3).rename());
        Due.is(OK, Due.at(x, 6, 3).remove());
        Due.names(Due.at(x, 1));
    }

    // "A path without steps, or HERE alone, is where it begins."
    private static void pathsWithoutSteps() {
        VirtualFiles x = fourDisks();
        Due.is(0, Due.at(x).about(false, 4));
        Due.names(x, 1);
        Due.is(3, Due.at(x, HERE).about(false, 4));
        Due.names(x);
        Due.is(OK, Due.at(x, 1).enter());
        Due.names(Due.at(x, HERE), 2);
        Due.is(OK, Due.at(x, HERE).enter());
        Due.names(Due.at(x, HERE), 2);
        Due.is(OK, Due.at(x).enter());
        Due.names(Due.at(x, HERE), 1);
    }

    // "(INVALID if it ends otherwise or is empty)"
    private static void noPlace() {
        List<ToLongFunction<VirtualFiles>> calls = List.of(VirtualFiles::directory, VirtualFiles::link,
                VirtualFiles::remove, VirtualFiles::prune, VirtualFiles::rename);
        int[][] noPlaces = {{}, {HERE}, {UP}, {HERE, UP}, {1, UP}, {1, 2, 3, 4, UP}, {9, UP}, {UP, UP, UP, UP, UP}};
        for (int[] path : noPlaces) {
            for (ToLongFunction<VirtualFiles> call : calls) {
                Due.is(INVALID, call.applyAsLong(Due.and(Due.at(deep(NODES), path), 9)));
            }
            Due.is(INVALID, Due.and(Due.at(deep(NODES), path), 1, 2, 3, 4, 5).entry());
            Due.is(INVALID, Due.and(Due.at(deep(NODES), 1), path).rename());
        }
    }

    // "The PLACE of a path that ends with a name is the directory that the steps before it reach, and that name"
    private static void placesBehindLinksAndUp() {
        VirtualFiles x = deep(NODES);
        link(x, at(6), 1, 2, 3);
        Due.is(OK, Due.at(x, 6, 7).directory());
        Due.is(OK, Due.at(x, 6, UP, 8).directory());
        Due.names(Due.at(x, 1, 2), 3, 8);
        Due.is(OK, Due.at(x, 6, UP, 8).prune());
        Due.is(OK, Due.at(x, 1, UP, 9).directory());
        Due.is(OK, Due.at(x, 6, 4).enter());
        Due.is(0, Due.at(x, HERE, UP, 10).open(1));
        Due.names(Due.at(x, 1, 2, 3), 4, 7, 10);
        Due.names(Due.at(x, 1, 2), 3);
        Due.names(Due.at(x), 1, 6, 9);
        Due.is(OK, Due.and(Due.at(x, 6, 10), HERE, 11).rename());
        Due.names(Due.at(x, HERE), 5, 11);
        Due.is(OK, Due.at(x, 6, 7).prune());
        Due.is(OK, Due.at(x, 6, 4, 11).remove());
        Due.names(Due.at(x, 1, 2, 3), 4);
        // Beside a mounted disk: the place is on the disk whose directory has the entry.
        Due.is(OK, Due.at(x, 9).mount(1));
        Due.is(1, Due.at(x, 9).about(true, 4));
        Due.is(EXISTS, Due.at(x, 9).directory());
        Due.is(BUSY, Due.at(x, 9).prune());
        Due.is(OK, Due.at(x, 9, 1).directory());
        Due.is(1, Due.at(x, 9, 1).about(true, 4));
    }

    // "Two paths are drafted, A and B; operations use them and leave them."
    private static void operationsLeaveTheDrafts() {
        VirtualFiles x = deep(NODES);
        Due.is(OK, x.make(1, NODES));
        Due.and(Due.at(x, 1, 6), 1, 2, 3, 4, 5);
        List<ToLongFunction<VirtualFiles>> calls = List.of(VirtualFiles::entry, VirtualFiles::remove,
                VirtualFiles::link, y -> y.open(1), y -> y.close(0), y -> y.about(true, 1), VirtualFiles::enter,
                y -> y.name(0), VirtualFiles::prune, VirtualFiles::remove, VirtualFiles::directory, y -> y.mount(1),
                y -> y.unmount(1), y -> y.mount(4), y -> y.make(2, LOG), y -> y.pack(0, 3), y -> y.sync(0),
                y -> y.free(0), VirtualFiles::rename, VirtualFiles::prune, y -> y.open(9), y -> y.read(0));
        int[] due = {OK, OK, OK, 0, OK, 3, NOTDIR, NOTDIR, NOTDIR, OK, OK, OK, OK, BAD, OK, OK, 0, 25, NOTDIR, OK, BAD, BAD};
        for (int i = 0; i < due.length; i++) {
            Due.is(due[i], calls.get(i).applyAsLong(x));
        }
        Due.is(OK, x.entry());
        Due.is(2, x.about(false, 2));
        Due.names(Due.at(x, 1), 2, 6);
    }
}
