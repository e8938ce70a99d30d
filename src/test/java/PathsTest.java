/** Promises 2, 3, 10, 23 and 24, and the paths of "Terms": step, wipe, enter, about, name. */
public final class PathsTest {
    private static final int TABLE = 0, NODES = 1, LOG = 2, HERE = 0, UP = 15;

    public static void main(String[] args) {
        stepTakesWhatItMay();
        stepRefuses();
        stepKeepsDraftsApart();
        wipe();
        operationsLeaveTheDrafts();
        waysByNamesAndUp();
        waysBeginAtHereOrTheTop();
        waysAreRefused();
        equalNames();
        linksInWays();
        linksThatStartHereOrAtTheTop();
        linksAcrossDisks();
        fourLinksAreFollowed();
        fiveLinksAreALoop();
        enter();
        enterRefuses();
        aboutDirectories();
        aboutFilesAndLinks();
        aboutRefuses();
        name();
        nameRefuses();
        Due.end();
    }

    // "0 HERE (only the first one), 1..14 a name, 15 UP"
    private static void stepTakesWhatItMay() {
        for (int s = 0; s <= 15; s++) {
            VirtualFiles x = new VirtualFiles();
            Due.yes(x.step(false, s));
            Due.yes(x.step(true, s));
        }
        VirtualFiles x = new VirtualFiles();
        Due.yes(x.step(false, 0));
        for (int i = 0; i < 4; i++) {
            Due.yes(x.step(false, 15 - i));
        }
        Due.no(x.step(false, 1));
    }

    private static void stepRefuses() {
        VirtualFiles x = Due.mounted(NODES);
        Due.no(x.step(false, -1));
        Due.no(x.step(false, 16));
        Due.no(x.step(true, Integer.MIN_VALUE));
        Due.no(x.step(true, Integer.MAX_VALUE));
        Due.yes(x.step(false, 1));
        Due.no(x.step(false, 0));
        Due.no(x.step(false, 16));
        // The refused steps are not in the path.
        Due.is(VirtualFiles.OK, x.directory());
        Due.names(Due.at(x), 1);
        for (int i = 0; i < 5; i++) {
            Due.yes(x.step(false, UP));
        }
        for (int s = -1; s <= 16; s++) {
            Due.no(x.step(false, s));
        }
        Due.is(1, x.about(true, 0));
        for (int i = 0; i < 5; i++) {
            Due.yes(x.step(true, i));
        }
        Due.no(x.step(true, 7));
        Due.is(5, linkLengthOf(x));
    }

    private static int linkLengthOf(VirtualFiles x) {
        x.wipe();
        for (int i = 0; i < 5; i++) {
            x.step(true, i);
        }
        x.step(true, 7);
        x.step(false, 9);
        Due.is(VirtualFiles.OK, x.link());
        return x.about(false, 1);
    }

    // Promise 2: "Appends a step to path A, or (second) B."
    private static void stepKeepsDraftsApart() {
        VirtualFiles x = Due.mounted(NODES);
        Due.directories(x, 1);
        x.wipe();
        Due.yes(x.step(true, 1));
        Due.yes(x.step(true, 2));
        Due.is(1, x.about(true, 1));
        Due.yes(x.step(false, 3));
        Due.is(VirtualFiles.OK, x.link());
        Due.is(2, x.about(false, 1));
        Due.yes(x.step(true, 0) || x.step(false, 4));
    }

    // Promise 3: "Empties both drafts."
    private static void wipe() {
        VirtualFiles x = Due.mounted(NODES);
        Due.and(Due.at(x, 0, 1, 2, 3, 4), 0, 1, 2, 3, 4);
        x.wipe();
        Due.is(1, x.about(true, 0));
        Due.yes(x.step(false, 0));
        Due.yes(x.step(false, 5));
        Due.is(VirtualFiles.OK, x.link());
        Due.is(0, x.about(false, 1));
        x.wipe();
        x.wipe();
        Due.is(VirtualFiles.INVALID, x.directory());
    }

    private static void operationsLeaveTheDrafts() {
        VirtualFiles x = Due.mounted(NODES);
        Due.and(Due.at(x, 1), 2);
        Due.is(VirtualFiles.OK, x.directory());
        Due.is(VirtualFiles.EXISTS, x.directory());
        Due.is(VirtualFiles.OK, x.rename());
        Due.is(VirtualFiles.NOENT, x.rename());
        Due.is(VirtualFiles.OK, x.link());
        Due.is(1, x.about(true, 0));
        Due.is(3, x.about(false, 0));
        Due.is(VirtualFiles.OK, x.remove());
        Due.is(0, x.open(1));
        Due.is(1, x.open(0));
        Due.is(VirtualFiles.NOTDIR, x.enter());
        Due.is(VirtualFiles.NOTDIR, x.prune());
    }

    /** Directories 1, 1/2, 1/2/3, file 4 with two ints in 1/2, file 5 with one int at the top. */
    private static VirtualFiles tree(int format) {
        VirtualFiles x = Due.mounted(format);
        Due.directories(x, 1);
        Due.is(VirtualFiles.OK, Due.at(x, 1, 2).directory());
        Due.is(VirtualFiles.OK, Due.at(x, 1, 2, 3).directory());
        Due.file(x, 2, 1, 2, 4);
        Due.file(x, 1, 5);
        return x;
    }

    private static void waysByNamesAndUp() {
        for (int format = TABLE; format <= LOG; format++) {
            VirtualFiles x = tree(format);
            Due.is(2, Due.at(x, 1, 2, 4).about(true, 1));
            Due.names(Due.at(x, 1, 2), 3, 4);
            Due.names(Due.at(x, 1, 2, 3, UP), 3, 4);
            Due.names(Due.at(x, 1, 2, 3, UP, UP), 2);
            Due.names(Due.at(x, 1, UP), 1, 5);
            Due.names(Due.at(x, UP, UP, UP, 1, 2), 3, 4);
            Due.names(Due.at(x, UP), 1, 5);
        }
    }

    private static void waysBeginAtHereOrTheTop() {
        VirtualFiles x = tree(NODES);
        Due.is(VirtualFiles.OK, Due.at(x, 1, 2).enter());
        Due.names(Due.at(x, HERE), 3, 4);
        Due.names(Due.at(x), 1, 5);
        Due.names(Due.at(x, HERE, UP), 2);
        Due.names(Due.at(x, HERE, UP, UP), 1, 5);
        Due.names(Due.at(x, HERE, UP, UP, UP), 1, 5);
        Due.is(2, Due.at(x, HERE, 4).about(true, 0));
        Due.is(VirtualFiles.NOENT, Due.at(x, 4).about(true, 0));
        Due.is(VirtualFiles.NOENT, Due.at(x, HERE, 5).about(true, 0));
        Due.is(VirtualFiles.OK, Due.at(x, HERE, 6).directory());
        Due.names(Due.at(x, 1, 2), 3, 4, 6);
    }

    private static void waysAreRefused() {
        VirtualFiles x = tree(LOG);
        Due.is(VirtualFiles.NOENT, Due.at(x, 7).about(true, 0));
        Due.is(VirtualFiles.NOENT, Due.at(x, 7, 7, UP).about(true, 0));
        Due.is(VirtualFiles.NOTDIR, Due.at(x, 5, 7).about(true, 0));
        Due.is(VirtualFiles.NOTDIR, Due.at(x, 5, UP).about(true, 0));
        Due.is(VirtualFiles.NOTDIR, Due.at(x, 1, 2, 4, UP, 7).about(false, 0));
        Due.is(VirtualFiles.NOENT, Due.at(x, 1, 7, 5).about(false, 0));
    }

    private static void equalNames() {
        for (int n = 1; n <= 7; n++) {
            VirtualFiles x = Due.mounted(TABLE);
            Due.directories(x, n);
            Due.is(1, Due.at(x, n + 7).about(true, 0));
            Due.is(VirtualFiles.OK, Due.at(x, n + 7, n + 7).directory());
            Due.names(x);
            Due.names(Due.at(x, n + 7), n + 7);
            Due.is(1, Due.at(x, n, n).about(true, 0));
            for (int m = 1; m <= 14; m++) {
                Due.is(m == n || m == n + 7 ? 1 : VirtualFiles.NOENT, Due.at(x, m).about(true, 0));
            }
        }
        for (int format = NODES; format <= LOG; format++) {
            VirtualFiles x = Due.mounted(format);
            Due.directories(x, 1, 8);
            Due.is(VirtualFiles.NOENT, Due.at(x, 2).about(true, 0));
            Due.is(VirtualFiles.OK, Due.at(x, 9).directory());
            Due.is(VirtualFiles.NOENT, Due.at(x, 2).about(true, 0));
            Due.names(Due.at(x), 1, 8, 9);
        }
    }

    private static void linksInWays() {
        for (int format = NODES; format <= LOG; format++) {
            VirtualFiles x = tree(format);
            Due.is(VirtualFiles.OK, Due.and(Due.at(x, 6), 1, 2).link());
            Due.is(VirtualFiles.OK, Due.and(Due.at(x, 7), 1, 2, 4).link());
            Due.is(VirtualFiles.OK, Due.and(Due.at(x, 8), 9).link());
            Due.names(Due.at(x, 6), 3, 4);
            Due.is(3, Due.at(x, 6).about(false, 0));
            Due.is(1, Due.at(x, 6).about(true, 0));
            Due.is(2, Due.at(x, 6, 4).about(false, 0));
            Due.names(Due.at(x, 6, UP), 2);
            Due.names(Due.at(x, 6, 3, UP), 3, 4);
            Due.is(2, Due.at(x, 7).about(true, 0));
            Due.is(VirtualFiles.NOTDIR, Due.at(x, 7, UP).about(true, 0));
            Due.is(VirtualFiles.NOTDIR, Due.at(x, 7, 1).about(false, 0));
            Due.is(VirtualFiles.NOENT, Due.at(x, 8).about(true, 0));
            Due.is(VirtualFiles.NOENT, Due.at(x, 8, UP).about(false, 0));
            Due.is(3, Due.at(x, 8).about(false, 0));
        }
    }

    private static void linksThatStartHereOrAtTheTop() {
        VirtualFiles x = tree(NODES);
        Due.is(VirtualFiles.OK, Due.and(Due.at(x, 1, 6), HERE, 2).link());
        Due.is(VirtualFiles.OK, Due.and(Due.at(x, 1, 7), 1).link());
        Due.is(VirtualFiles.OK, Due.and(Due.at(x, 1, 8)).link());
        Due.is(VirtualFiles.OK, Due.and(Due.at(x, 1, 9), HERE).link());
        Due.names(Due.at(x, 1, 6), 3, 4);
        Due.names(Due.at(x, 1, 7, 2), 3, 4);
        Due.names(Due.at(x, 1, 8), 1, 5);
        Due.names(Due.at(x, 1, 8, 1, 9), 2, 6, 7, 8, 9);
        Due.is(1, Due.at(x, 1, 9).about(false, 1));
        Due.is(0, Due.at(x, 1, 8).about(false, 1));
        // HERE in a link is where the link is, not the current directory.
        Due.is(VirtualFiles.OK, Due.at(x, 1, 2, 3).enter());
        Due.names(Due.at(x, 1, 6), 3, 4);
        Due.names(Due.at(x, HERE, UP, UP, 9, 2), 3, 4);
        Due.is(VirtualFiles.OK, Due.at(x, 1, 7).remove());
        Due.is(VirtualFiles.OK, Due.at(x, 1, 8).remove());
        Due.is(VirtualFiles.OK, Due.and(Due.at(x, 1, 2, 3, 1), UP).link());
        Due.names(Due.at(x, 1, 2, 3, 1), 1, 5);
        Due.is(VirtualFiles.OK, Due.and(Due.at(x, HERE, 2), HERE, UP, UP).link());
        Due.names(Due.at(x, HERE, 2), 2, 6, 9);
    }

    private static void linksAcrossDisks() {
        VirtualFiles x = tree(NODES);
        Due.is(VirtualFiles.OK, x.make(1, LOG));
        Due.is(VirtualFiles.OK, Due.at(x, 1, 2, 3).mount(1));
        Due.is(VirtualFiles.OK, Due.and(Due.at(x, 1, 2, 3, 1), HERE, UP, 4).link());
        Due.is(0, Due.at(x, 1, 2, 3, 1).about(true, 4));
        Due.is(2, x.about(true, 1));
        Due.is(1, x.about(false, 4));
        Due.is(VirtualFiles.OK, Due.and(Due.at(x, 6), 1, 2, 3).link());
        Due.is(1, Due.at(x, 6).about(true, 4));
        Due.is(VirtualFiles.OK, Due.at(x, 6, 2).directory());
        Due.names(Due.at(x, 1, 2, 3), 1, 2);
        Due.names(Due.at(x, 6, 2, UP, UP), 3, 4);
    }

    private static void fourLinksAreFollowed() {
        VirtualFiles x = Due.mounted(NODES);
        Due.directories(x, 1);
        Due.is(VirtualFiles.OK, Due.and(Due.at(x, 2), HERE).link());
        Due.is(VirtualFiles.OK, Due.and(Due.at(x, 3), 2, 2, 2).link());
        Due.is(1, Due.at(x, 2, 2, 2, 2, 1).about(true, 0));
        Due.is(VirtualFiles.LOOP, Due.at(x, 2, 2, 2, 2, 2).about(true, 0));
        Due.is(3, Due.at(x, 2, 2, 2, 2, 2).about(false, 0));
        Due.is(1, Due.at(x, 3, 1).about(true, 0));
        Due.is(VirtualFiles.LOOP, Due.at(x, 3, 2, 1).about(true, 0));
        Due.is(3, Due.at(x, 3, 2).about(false, 0));
    }

    private static void fiveLinksAreALoop() {
        VirtualFiles x = Due.mounted(LOG);
        Due.is(VirtualFiles.OK, Due.and(Due.at(x, 1), UP, UP, UP, UP, 2).link());
        Due.is(VirtualFiles.OK, Due.and(Due.at(x, 2), UP, UP, UP, UP, 3).link());
        Due.is(VirtualFiles.OK, Due.and(Due.at(x, 3), UP, UP, UP, UP, 4).link());
        Due.is(VirtualFiles.OK, Due.and(Due.at(x, 4), UP, UP, UP, UP, 5).link());
        Due.is(VirtualFiles.NOENT, Due.at(x, 1).about(true, 0));
        Due.directories(x, 5);
        Due.is(1, Due.at(x, 1).about(true, 0));
        // The longest ways: a path of five steps, four links of five steps.
        Due.is(1, Due.at(x, 1, UP, UP, UP, UP).about(true, 0));
        Due.is(1, Due.at(x, UP, UP, UP, UP, 1).about(true, 0));
        Due.is(VirtualFiles.OK, Due.at(x, 5).prune());
        Due.is(VirtualFiles.OK, Due.and(Due.at(x, 5), 5).link());
        Due.is(VirtualFiles.LOOP, Due.at(x, 1).about(true, 0));
        Due.is(VirtualFiles.LOOP, Due.at(x, 2).about(true, 0));
        Due.is(VirtualFiles.LOOP, Due.at(x, 5).about(true, 0));
        Due.is(VirtualFiles.LOOP, Due.at(x, 5, 1).about(false, 0));
        Due.is(3, Due.at(x, 5).about(false, 0));
        Due.is(VirtualFiles.LOOP, Due.at(x, 5, 1).directory());
        Due.is(VirtualFiles.LOOP, Due.at(x, 5, 1).remove());
        Due.is(VirtualFiles.LOOP, Due.at(x, 5).open(1));
    }

    // Promise 10: "The current directory becomes A (followed)."
    private static void enter() {
        VirtualFiles x = tree(NODES);
        Due.is(VirtualFiles.OK, Due.at(x, 1, 2).enter());
        Due.is(VirtualFiles.OK, Due.at(x, HERE, 3).enter());
        Due.names(Due.at(x, HERE, UP), 3, 4);
        Due.is(VirtualFiles.OK, Due.at(x, HERE, UP, UP).enter());
        Due.names(Due.at(x, HERE), 2);
        Due.is(VirtualFiles.OK, Due.at(x).enter());
        Due.names(Due.at(x, HERE), 1, 5);
        Due.is(VirtualFiles.OK, Due.and(Due.at(x, 6), 1, 2).link());
        Due.is(VirtualFiles.OK, Due.at(x, 6).enter());
        Due.names(Due.at(x, HERE), 3, 4);
        Due.is(VirtualFiles.OK, Due.at(x, HERE).enter());
        Due.names(x, 3, 4);
        // The current directory stays the same one when it is moved.
        Due.is(VirtualFiles.OK, Due.and(Due.at(x, 1, 2), 7).rename());
        Due.names(Due.at(x, HERE), 3, 4);
        Due.names(Due.at(x, HERE, UP), 1, 5, 6, 7);
        Due.is(VirtualFiles.OK, Due.at(x, 1).mount(2));
        Due.is(VirtualFiles.OK, Due.at(x, 1).enter());
        Due.is(2, Due.at(x, HERE).about(true, 4));
    }

    private static void enterRefuses() {
        VirtualFiles x = tree(NODES);
        Due.is(VirtualFiles.OK, Due.at(x, 1).enter());
        Due.is(VirtualFiles.NOENT, Due.at(x, 7).enter());
        Due.is(VirtualFiles.NOTDIR, Due.at(x, 5).enter());
        Due.is(VirtualFiles.NOTDIR, Due.at(x, 5, 1).enter());
        Due.is(VirtualFiles.OK, Due.and(Due.at(x, 6), 5).link());
        Due.is(VirtualFiles.NOTDIR, Due.at(x, 6).enter());
        Due.is(VirtualFiles.OK, Due.and(Due.at(x, 7), 7).link());
        Due.is(VirtualFiles.LOOP, Due.at(x, 7).enter());
        Due.names(Due.at(x, HERE), 2);
    }

    // Promise 23: "1 its size (a file's; a directory's entries; a link's steps); 2 how many entries it has (roots 0)"
    private static void aboutDirectories() {
        VirtualFiles x = Due.mounted(TABLE);
        Due.directories(x, 1, 2, 3, 4);
        Due.is(1, Due.at(x).about(false, 0));
        Due.is(4, x.about(false, 1));
        Due.is(0, x.about(false, 2));
        Due.is(1, x.about(false, 3));
        Due.is(0, x.about(false, 4));
        Due.directories(x, 5);
        Due.is(5, Due.at(x).about(true, 1));
        Due.is(2, x.about(true, 3));
        Due.is(1, Due.at(x, 1).about(true, 2));
        Due.is(1, x.about(true, 3));
        Due.is(0, x.about(true, 1));
        Due.is(VirtualFiles.OK, x.make(3, NODES));
        Due.is(VirtualFiles.OK, Due.at(x, 2).mount(3));
        for (int n = 1; n <= 6; n++) {
            Due.is(VirtualFiles.OK, Due.at(x, 2, n).directory());
        }
        Due.is(6, Due.at(x, 2).about(false, 1));
        Due.is(0, x.about(false, 2));
        Due.is(1, x.about(false, 3));
        Due.is(3, x.about(false, 4));
        Due.is(25, x.free(3));
    }

    // Promise 23: "Of A (links followed or not): what 0 its kind: 1 directory, 2 file, 3 link",
    // "3 the blocks it takes; 4 its disk"
    private static void aboutFilesAndLinks() {
        VirtualFiles x = tree(LOG);
        Due.is(VirtualFiles.OK, Due.and(Due.at(x, 6), HERE, 1, 2, 4).link());
        Due.is(2, Due.at(x, 6).about(true, 0));
        Due.is(2, x.about(true, 1));
        Due.is(1, x.about(true, 2));
        Due.is(1, x.about(true, 3));
        Due.is(0, x.about(true, 4));
        Due.is(3, x.about(false, 0));
        Due.is(4, x.about(false, 1));
        Due.is(1, x.about(false, 2));
        Due.is(0, x.about(false, 3));
        Due.is(0, x.about(false, 4));
        VirtualFiles y = tree(NODES);
        Due.is(VirtualFiles.OK, Due.and(Due.at(y, 6), 5).entry());
        Due.is(VirtualFiles.OK, Due.and(Due.at(y, 1, 6), 6).entry());
        Due.is(3, Due.at(y, 5).about(false, 2));
        Due.is(3, Due.at(y, 1, 6).about(false, 2));
    }

    private static void aboutRefuses() {
        VirtualFiles x = tree(NODES);
        Due.is(VirtualFiles.BAD, x.about(true, -1));
        Due.is(VirtualFiles.BAD, x.about(false, 5));
        Due.is(VirtualFiles.BAD, x.about(false, Integer.MIN_VALUE));
        Due.is(VirtualFiles.BAD, Due.at(x, 7).about(false, 5));
        for (int what = 0; what <= 4; what++) {
            Due.is(VirtualFiles.NOENT, Due.at(x, 7).about(false, what));
            Due.is(VirtualFiles.NOTDIR, Due.at(x, 5, 7).about(true, what));
        }
    }

    // Promise 24: "The k-th name (0 the first) in directory A (followed)"
    private static void name() {
        VirtualFiles x = Due.mounted(NODES);
        Due.names(x);
        Due.directories(x, 14, 3, 8, 1, 10);
        Due.names(Due.at(x), 1, 3, 8, 10, 14);
        Due.is(0, x.name(-1));
        Due.is(0, x.name(6));
        Due.is(0, x.name(Integer.MAX_VALUE));
        Due.is(0, x.name(Integer.MIN_VALUE));
        Due.file(x, 0, 2);
        Due.names(Due.at(x), 1, 2, 3, 8, 10, 14);
        Due.is(VirtualFiles.OK, Due.at(x, 8).prune());
        Due.names(Due.at(x), 1, 2, 3, 10, 14);
        Due.is(VirtualFiles.OK, Due.and(Due.at(x, 1, 5), HERE).link());
        Due.names(Due.at(x, 1, 5), 5);
    }

    private static void nameRefuses() {
        VirtualFiles x = tree(NODES);
        Due.is(VirtualFiles.NOTDIR, Due.at(x, 5).name(0));
        Due.is(VirtualFiles.NOTDIR, Due.at(x, 5).name(-1));
        Due.is(VirtualFiles.NOTDIR, Due.at(x, 5, 1).name(0));
        Due.is(VirtualFiles.NOENT, Due.at(x, 7).name(9));
        Due.is(VirtualFiles.OK, Due.and(Due.at(x, 6), 5).link());
        Due.is(VirtualFiles.NOTDIR, Due.at(x, 6).name(0));
        Due.is(VirtualFiles.BAD, new VirtualFiles().name(-1));
    }
}
