/**
 * A virtual file system of four small disks in one tree of names. The promises are in DOC.md.
 *
 * Objects of all disks share one row of numbers: disk d has d * OBJECTS .. d * OBJECTS + OBJECTS - 1, its root is the
 * first. So an object's number tells its disk, and an answer below 0 is always an error, never an object.
 */
public final class VirtualFiles {
    public static final int OK = 0, NOENT = -1, NOTDIR = -2, ISDIR = -3, EXISTS = -4, LOOP = -5, READONLY = -6, FULL = -7, BUSY = -8, UNSUPPORTED = -9, NOTEMPTY = -10, CROSS = -11, INVALID = -12, BAD = -13;

    private static final int DISKS = 4, BLOCKS = 32, OBJECTS = 10, ALL_OBJECTS = DISKS * OBJECTS;
    private static final int TABLE = 0, NODES = 1, LOG = 2;
    private static final int DIRECTORY = 1, FILE = 2, LINK = 3;
    private static final int ENTRIES = 6, LAST_NAME = 14, NAME_SLOTS = LAST_NAME + 1, EQUAL_APART = 7, ENTRIES_OF_ONE_BLOCK = 4;
    private static final int ALL_NAME_SLOTS = ALL_OBJECTS * NAME_SLOTS;
    private static final int SIZE = 20, PART = 4, PARTS = SIZE / PART, ALL_INTS = ALL_OBJECTS * SIZE;
    // Each link that is followed adds at most STEPS to a way.
    private static final int HERE = 0, UP = 15, STEPS = 5, LINKS_ON_A_WAY = 4, STEPS_ON_A_WAY = STEPS + LINKS_ON_A_WAY * STEPS;
    private static final int A = 0, B = 1, DRAFTS = 2, DRAFT_STEPS = DRAFTS * STEPS;
    private static final int HANDLES = 5, TO_READ = 0, TO_READ_AND_WRITE = 1, TO_WRITE_ANEW = 2, TO_APPEND = 3;
    private static final int NOT_MOUNTED = -2, AT_THE_TOP = -1, NO_DISK = -1;
    // Object 0 is a root, which no entry names and no handle opens: its number is free to say "nothing" there.
    private static final int NOTHING = 0;
    private static final int NO_NAME = 0;

    private final int[] format = new int[DISKS];
    private final boolean[] readOnly = new boolean[DISKS];
    private final int[] dead = new int[DISKS];
    private final int[] mountedOn = new int[DISKS];
    private int top = NO_DISK;
    private int current = 0;

    private final int[] kind = new int[ALL_OBJECTS];
    private final int[] size = new int[ALL_OBJECTS];
    private final int[] entriesFor = new int[ALL_OBJECTS];
    private final int[] writtenParts = new int[ALL_OBJECTS];
    // A file's ints or a link's steps.
    private final int[] held = new int[ALL_INTS];
    // One slot for each name, so that the entries of a directory always stand by rising name.
    private final int[] named = new int[ALL_NAME_SLOTS];

    private final int[] openFile = new int[HANDLES];
    private final int[] openHow = new int[HANDLES];
    private final int[] position = new int[HANDLES];

    private final int[] draft = new int[DRAFT_STEPS];
    private final int[] draftLength = new int[DRAFTS];

    // The steps still to go on a way, the next one last, so that a link's steps are put where the link stood.
    private final int[] ahead = new int[STEPS_ON_A_WAY];
    private int aheadCount = 0;

    public VirtualFiles() {
        for (int d = 0; d < DISKS; d++) {
            mountedOn[d] = NOT_MOUNTED;
            clearDisk(d, TABLE);
        }
    }

    // ---- drafts

    public boolean step(boolean second, int s) {
        int path = second ? B : A;
        int count = draftLength[path];
        if (s < HERE || s > UP || count >= STEPS || (s == HERE && count > 0)) {
            return false;
        }
        draft[path * STEPS + count] = s;
        draftLength[path] = count + 1;
        return true;
    }

    public void wipe() {
        draftLength[A] = 0;
        draftLength[B] = 0;
    }

    // ---- disks

    public int make(int d, int format) {
        if (!isDisk(d) || format < TABLE || format > LOG) {
            return BAD;
        }
        if (isMounted(d)) {
            return BUSY;
        }
        clearDisk(d, format);
        return OK;
    }

    public int mount(int d) {
        if (!isDisk(d)) {
            return BAD;
        }
        if (isMounted(d)) {
            return BUSY;
        }
        if (top == NO_DISK) {
            top = d;
            mountedOn[d] = AT_THE_TOP;
            current = rootOf(d);
            return OK;
        }
        int directory = directoryAt(A);
        if (directory < 0) {
            return directory;
        }
        if (isRoot(directory) || isCovered(directory)) {
            return BUSY;
        }
        mountedOn[d] = directory;
        return OK;
    }

    public int unmount(int d) {
        if (!isDisk(d) || !isMounted(d)) {
            return BAD;
        }
        if (hasOpenFile(d) || diskOf(current) == d || carriesDisk(d)) {
            return BUSY;
        }
        // The disk at the top never comes here: the current directory is on it, or on a disk somewhere above it.
        mountedOn[d] = NOT_MOUNTED;
        return OK;
    }

    public int pack(int a, int b) {
        if (!isDisk(a) || !isDisk(b) || a == b) {
            return BAD;
        }
        if (isMounted(b) || hasOpenFile(a)) {
            return BUSY;
        }
        format[b] = format[a];
        readOnly[b] = true;
        dead[b] = 0;
        for (int i = 0; i < OBJECTS; i++) {
            copyObject(a * OBJECTS + i, b * OBJECTS + i);
        }
        return OK;
    }

    public int sync(int d) {
        if (!isDisk(d)) {
            return BAD;
        }
        int were = dead[d];
        dead[d] = 0;
        return were;
    }

    public int free(int d) {
        return isDisk(d) ? freeBlocks(d) : BAD;
    }

    // ---- the tree of names

    public int enter() {
        if (top == NO_DISK) {
            return BAD;
        }
        int directory = directoryAt(A);
        if (directory < 0) {
            return directory;
        }
        current = directory;
        return OK;
    }

    public int directory() {
        int place = placeForNew();
        if (place < 0) {
            return place;
        }
        int made = addObject(place, DIRECTORY);
        return made < 0 ? made : OK;
    }

    public int link() {
        int place = placeForNew();
        if (place < 0) {
            return place;
        }
        if (format[diskOf(place)] == TABLE) {
            return UNSUPPORTED;
        }
        int made = addObject(place, LINK);
        if (made < 0) {
            return made;
        }
        size[made] = draftLength[B];
        for (int i = 0; i < STEPS; i++) {
            held[made * SIZE + i] = draft[B * STEPS + i];
        }
        return OK;
    }

    public int entry() {
        if (top == NO_DISK) {
            return BAD;
        }
        int file = walk(B, draftLength[B], false);
        if (file < 0) {
            return file;
        }
        if (kind[file] == DIRECTORY) {
            return ISDIR;
        }
        int place = placeForNew();
        if (place < 0) {
            return place;
        }
        if (diskOf(file) != diskOf(place)) {
            return CROSS;
        }
        if (format[diskOf(file)] != NODES || kind[file] == LINK) {
            return UNSUPPORTED;
        }
        if (size[place] >= ENTRIES) {
            return FULL;
        }
        int name = lastStep(A);
        addEntry(place, name, file);
        return OK;
    }

    public int remove() {
        int place = placeOfEntry();
        if (place < 0) {
            return place;
        }
        int name = nameAt(place, A);
        if (kind[named[place * NAME_SLOTS + name]] == DIRECTORY) {
            return ISDIR;
        }
        if (readOnly[diskOf(place)]) {
            return READONLY;
        }
        dropEntry(place, name);
        return OK;
    }

    public int prune() {
        int place = placeOfEntry();
        if (place < 0) {
            return place;
        }
        int name = nameAt(place, A);
        int directory = named[place * NAME_SLOTS + name];
        if (kind[directory] != DIRECTORY) {
            return NOTDIR;
        }
        if (isInUse(directory)) {
            return BUSY;
        }
        if (readOnly[diskOf(place)]) {
            return READONLY;
        }
        if (size[directory] > 0) {
            return NOTEMPTY;
        }
        dropEntry(place, name);
        return OK;
    }

    public int rename() {
        int from = placeOfEntry();
        if (from < 0) {
            return from;
        }
        int oldName = nameAt(from, A);
        int to = placeOf(B);
        if (to < 0) {
            return to;
        }
        int refused = refusalToMove(from, oldName, to);
        if (refused != OK) {
            return refused;
        }
        int other = nameAt(to, B);
        if (other == NO_NAME) {
            return moveToNewName(from, oldName, to);
        }
        return moveOntoEntry(from, oldName, to, other);
    }

    public int about(boolean follow, int what) {
        if (top == NO_DISK || what < 0 || what > 4) {
            return BAD;
        }
        int object = walk(A, draftLength[A], follow);
        if (object < 0) {
            return object;
        }
        switch (what) {
            case 0: return kind[object];
            case 1: return size[object];
            case 2: return entriesFor[object];
            case 3: return blocksOf(object);
            default: return diskOf(object);
        }
    }

    public int name(int k) {
        if (top == NO_DISK) {
            return BAD;
        }
        int directory = directoryAt(A);
        if (directory < 0) {
            return directory;
        }
        int before = 0;
        for (int n = 1; n <= LAST_NAME; n++) {
            if (named[directory * NAME_SLOTS + n] != NOTHING) {
                if (before == k) {
                    return n;
                }
                before++;
            }
        }
        return NO_NAME;
    }

    // ---- open files

    public int open(int how) {
        if (top == NO_DISK || how < TO_READ || how > TO_APPEND) {
            return BAD;
        }
        int file = walk(A, draftLength[A], true);
        if (file == NOENT && (how == TO_READ_AND_WRITE || how == TO_APPEND)) {
            int place = placeOf(A);
            // A link that leads nowhere has the name already: then no file is begun.
            if (place >= 0 && nameAt(place, A) == NO_NAME) {
                return openNew(place, how);
            }
        }
        if (file < 0) {
            return file;
        }
        if (kind[file] == DIRECTORY) {
            return ISDIR;
        }
        if (how != TO_READ && readOnly[diskOf(file)]) {
            return READONLY;
        }
        int h = leastClosedHandle();
        if (h < 0) {
            return h;
        }
        if (how == TO_WRITE_ANEW) {
            setSize(file, 0);
        }
        return hold(h, file, how);
    }

    public int close(int h) {
        if (!isOpen(h)) {
            return BAD;
        }
        int file = openFile[h];
        openFile[h] = NOTHING;
        endIfGone(file);
        return OK;
    }

    public long read(int h) {
        if (!isOpen(h) || openHow[h] == TO_WRITE_ANEW || openHow[h] == TO_APPEND) {
            return BAD;
        }
        int file = openFile[h];
        int at = position[h];
        if (at >= size[file]) {
            return 0;
        }
        position[h] = at + 1;
        return held[file * SIZE + at];
    }

    public int write(int h, int v) {
        if (!mayWrite(h)) {
            return BAD;
        }
        int file = openFile[h];
        int at = openHow[h] == TO_APPEND ? size[file] : position[h];
        if (at >= SIZE) {
            return FULL;
        }
        int d = diskOf(file);
        if (blocksToWrite(file, at) > freeBlocks(d)) {
            return FULL;
        }
        int part = 1 << (at / PART);
        if (format[d] == LOG && (writtenParts[file] & part) != 0) {
            dead[d]++;
        }
        writtenParts[file] |= part;
        if (at >= size[file]) {
            setSize(file, at + 1);
        }
        held[file * SIZE + at] = v;
        position[h] = at + 1;
        return OK;
    }

    public int seek(int h, int p) {
        if (!isOpen(h) || p < 0 || p > SIZE) {
            return BAD;
        }
        position[h] = p;
        return OK;
    }

    public int resize(int h, int n) {
        if (!mayWrite(h) || n < 0 || n > SIZE) {
            return BAD;
        }
        int file = openFile[h];
        int d = diskOf(file);
        if (format[d] == TABLE && partsIn(n) - partsIn(size[file]) > freeBlocks(d)) {
            return FULL;
        }
        setSize(file, n);
        return OK;
    }

    // ---- disks and objects

    private static boolean isDisk(int d) {
        return d >= 0 && d < DISKS;
    }

    private static int rootOf(int d) {
        return d * OBJECTS;
    }

    private static int diskOf(int object) {
        return object / OBJECTS;
    }

    private static boolean isRoot(int object) {
        return object % OBJECTS == 0;
    }

    private boolean isMounted(int d) {
        return mountedOn[d] != NOT_MOUNTED;
    }

    private boolean isCovered(int directory) {
        return rootOver(directory) != directory;
    }

    private boolean isInUse(int directory) {
        return isCovered(directory) || directory == current;
    }

    private boolean carriesDisk(int d) {
        for (int other = 0; other < DISKS; other++) {
            if (mountedOn[other] >= 0 && diskOf(mountedOn[other]) == d) {
                return true;
            }
        }
        return false;
    }

    private boolean hasOpenFile(int d) {
        for (int h = 0; h < HANDLES; h++) {
            if (openFile[h] != NOTHING && diskOf(openFile[h]) == d) {
                return true;
            }
        }
        return false;
    }

    private void clearDisk(int d, int newFormat) {
        format[d] = newFormat;
        readOnly[d] = false;
        dead[d] = 0;
        int root = rootOf(d);
        for (int i = 0; i < OBJECTS; i++) {
            kind[root + i] = NOTHING;
        }
        beginObject(root, DIRECTORY);
    }

    private void beginObject(int object, int newKind) {
        kind[object] = newKind;
        size[object] = 0;
        entriesFor[object] = 0;
        writtenParts[object] = 0;
        for (int n = 0; n < NAME_SLOTS; n++) {
            named[object * NAME_SLOTS + n] = NOTHING;
        }
    }

    private void copyObject(int from, int to) {
        kind[to] = kind[from];
        size[to] = size[from];
        entriesFor[to] = entriesFor[from];
        writtenParts[to] = writtenParts[from];
        for (int i = 0; i < SIZE; i++) {
            held[to * SIZE + i] = held[from * SIZE + i];
        }
        for (int n = 0; n < NAME_SLOTS; n++) {
            int object = named[from * NAME_SLOTS + n];
            named[to * NAME_SLOTS + n] = object == NOTHING ? NOTHING : object + to - from;
        }
    }

    // ---- blocks

    private static int partsIn(int n) {
        return (n + PART - 1) / PART;
    }

    private int countWrittenParts(int file) {
        int count = 0;
        for (int b = 0; b < PARTS; b++) {
            count += (writtenParts[file] >> b) & 1;
        }
        return count;
    }

    private int blocksOfDirectory(int d, int entries) {
        return format[d] == TABLE && entries > ENTRIES_OF_ONE_BLOCK ? 2 : 1;
    }

    private int blocksOf(int object) {
        int d = diskOf(object);
        if (kind[object] == DIRECTORY) {
            return blocksOfDirectory(d, size[object]);
        }
        if (kind[object] == FILE) {
            return format[d] == TABLE ? partsIn(size[object]) : countWrittenParts(object);
        }
        return 0;
    }

    private int freeBlocks(int d) {
        int left = BLOCKS - dead[d];
        for (int i = 0; i < OBJECTS; i++) {
            left -= blocksOf(d * OBJECTS + i);
        }
        return left;
    }

    private int blocksToWrite(int file, int at) {
        int d = diskOf(file);
        if (format[d] == LOG) {
            return 1;
        }
        if (format[d] == NODES) {
            return ((writtenParts[file] >> (at / PART)) & 1) == 0 ? 1 : 0;
        }
        return at < size[file] ? 0 : partsIn(at + 1) - partsIn(size[file]);
    }

    private int blocksForFurtherEntry(int directory) {
        int d = diskOf(directory);
        return blocksOfDirectory(d, size[directory] + 1) - blocksOfDirectory(d, size[directory]);
    }

    // ---- ways and places

    /** The object to which the first steps of a draft lead, or what its way says. */
    private int walk(int path, int count, boolean follow) {
        int first = path * STEPS;
        int at = startOf(draft, first, count, current);
        int links = 0;
        aheadCount = 0;
        putAhead(draft, first, count);
        for (int turn = 0; turn < STEPS_ON_A_WAY && aheadCount > 0; turn++) {
            aheadCount--;
            int s = ahead[aheadCount];
            if (kind[at] != DIRECTORY) {
                return NOTDIR;
            }
            if (s == UP) {
                at = directoryAbove(at);
                continue;
            }
            int name = equalName(at, s);
            if (name == NO_NAME) {
                return NOENT;
            }
            int next = named[at * NAME_SLOTS + name];
            if (kind[next] != LINK || (aheadCount == 0 && !follow)) {
                at = rootOver(next);
                continue;
            }
            links++;
            if (links > LINKS_ON_A_WAY) {
                return LOOP;
            }
            at = startOf(held, next * SIZE, size[next], at);
            putAhead(held, next * SIZE, size[next]);
        }
        return at;
    }

    private int startOf(int[] steps, int first, int count, int here) {
        return count > 0 && steps[first] == HERE ? here : rootOf(top);
    }

    // HERE only tells where a way starts, so it is not one of the steps to go.
    private void putAhead(int[] steps, int first, int count) {
        for (int i = count - 1; i >= 0; i--) {
            if (steps[first + i] != HERE) {
                ahead[aheadCount] = steps[first + i];
                aheadCount++;
            }
        }
    }

    // No disk is ever mounted on a root, so one crossing is enough, here and in rootOver.
    private int directoryAbove(int directory) {
        int below = isRoot(directory) ? mountedOn[diskOf(directory)] : directory;
        if (below < 0) {
            return directory;
        }
        int root = below - below % OBJECTS;
        for (int above = root; above < root + OBJECTS; above++) {
            if (kind[above] == DIRECTORY && hasEntryFor(above, below)) {
                return above;
            }
        }
        return root;
    }

    private boolean hasEntryFor(int directory, int object) {
        for (int n = 1; n <= LAST_NAME; n++) {
            if (named[directory * NAME_SLOTS + n] == object) {
                return true;
            }
        }
        return false;
    }

    private int rootOver(int object) {
        for (int d = 0; d < DISKS; d++) {
            if (mountedOn[d] == object) {
                return d * OBJECTS;
            }
        }
        return object;
    }

    private boolean isAtOrBelow(int directory, int upper) {
        int at = directory;
        for (int i = 0; i < OBJECTS && at != upper && !isRoot(at); i++) {
            at = directoryAbove(at);
        }
        return at == upper;
    }

    private int directoryAt(int path) {
        int object = walk(path, draftLength[path], true);
        return object >= 0 && kind[object] != DIRECTORY ? NOTDIR : object;
    }

    private int lastStep(int path) {
        int count = draftLength[path];
        return count == 0 ? HERE : draft[path * STEPS + count - 1];
    }

    /** The directory of a draft's place, or the error; the name of the place is the draft's last step. */
    private int placeOf(int path) {
        int last = lastStep(path);
        if (last == HERE || last == UP) {
            return INVALID;
        }
        int object = walk(path, draftLength[path] - 1, true);
        return object >= 0 && kind[object] != DIRECTORY ? NOTDIR : object;
    }

    private int placeOfEntry() {
        if (top == NO_DISK) {
            return BAD;
        }
        int place = placeOf(A);
        if (place < 0) {
            return place;
        }
        return nameAt(place, A) == NO_NAME ? NOENT : place;
    }

    private int placeForNew() {
        if (top == NO_DISK) {
            return BAD;
        }
        int place = placeOf(A);
        if (place < 0) {
            return place;
        }
        if (nameAt(place, A) != NO_NAME) {
            return EXISTS;
        }
        return readOnly[diskOf(place)] ? READONLY : place;
    }

    /** The name in the directory of a draft's place that is equal to the name of the place. */
    private int nameAt(int place, int path) {
        int last = lastStep(path);
        return equalName(place, last);
    }

    private int equalName(int directory, int name) {
        int first = directory * NAME_SLOTS;
        if (named[first + name] != NOTHING) {
            return name;
        }
        if (format[diskOf(directory)] != TABLE) {
            return NO_NAME;
        }
        int other = name > EQUAL_APART ? name - EQUAL_APART : name + EQUAL_APART;
        return named[first + other] != NOTHING ? other : NO_NAME;
    }

    // ---- entries

    private void addEntry(int directory, int name, int object) {
        named[directory * NAME_SLOTS + name] = object;
        size[directory]++;
        entriesFor[object]++;
    }

    private void dropEntry(int directory, int name) {
        int object = named[directory * NAME_SLOTS + name];
        named[directory * NAME_SLOTS + name] = NOTHING;
        size[directory]--;
        entriesFor[object]--;
        endIfGone(object);
    }

    private void endIfGone(int object) {
        if (entriesFor[object] > 0) {
            return;
        }
        for (int h = 0; h < HANDLES; h++) {
            if (openFile[h] == object) {
                return;
            }
        }
        if (kind[object] == FILE) {
            setSize(object, 0);
        }
        kind[object] = NOTHING;
    }

    /** A new object with the name of A's place, or FULL. */
    private int addObject(int place, int newKind) {
        int d = diskOf(place);
        int object = unusedObject(d);
        int blocks = blocksForFurtherEntry(place) + (newKind == DIRECTORY ? 1 : 0);
        if (object < 0 || size[place] >= ENTRIES || blocks > freeBlocks(d)) {
            return FULL;
        }
        beginObject(object, newKind);
        int name = lastStep(A);
        addEntry(place, name, object);
        return object;
    }

    private int unusedObject(int d) {
        for (int i = 0; i < OBJECTS; i++) {
            if (kind[d * OBJECTS + i] == NOTHING) {
                return d * OBJECTS + i;
            }
        }
        return FULL;
    }

    // ---- renaming

    private int refusalToMove(int from, int oldName, int to) {
        if (diskOf(from) != diskOf(to)) {
            return CROSS;
        }
        if (readOnly[diskOf(from)]) {
            return READONLY;
        }
        int object = named[from * NAME_SLOTS + oldName];
        if (isCovered(object)) {
            return BUSY;
        }
        return isAtOrBelow(to, object) ? INVALID : OK;
    }

    private int moveToNewName(int from, int oldName, int to) {
        int d = diskOf(to);
        if (from != to) {
            int given = blocksOfDirectory(d, size[from]) - blocksOfDirectory(d, size[from] - 1);
            if (size[to] >= ENTRIES || blocksForFurtherEntry(to) > freeBlocks(d) + given) {
                return FULL;
            }
        }
        moveEntry(from, oldName, to);
        return OK;
    }

    private int moveOntoEntry(int from, int oldName, int to, int other) {
        int object = named[from * NAME_SLOTS + oldName];
        int target = named[to * NAME_SLOTS + other];
        if (object == target) {
            if (from == to && oldName == other) {
                moveEntry(from, oldName, to);
            }
            return OK;
        }
        boolean moves = kind[object] == DIRECTORY;
        boolean meets = kind[target] == DIRECTORY;
        if (moves != meets) {
            return meets ? ISDIR : NOTDIR;
        }
        if (meets && isInUse(target)) {
            return BUSY;
        }
        if (meets && size[target] > 0) {
            return NOTEMPTY;
        }
        dropEntry(to, other);
        moveEntry(from, oldName, to);
        return OK;
    }

    // The object keeps its count of entries, so that it is never gone on the way.
    private void moveEntry(int from, int oldName, int to) {
        int object = named[from * NAME_SLOTS + oldName];
        int newName = lastStep(B);
        named[from * NAME_SLOTS + oldName] = NOTHING;
        size[from]--;
        named[to * NAME_SLOTS + newName] = object;
        size[to]++;
    }

    // ---- handles

    private boolean isOpen(int h) {
        return h >= 0 && h < HANDLES && openFile[h] != NOTHING;
    }

    private boolean mayWrite(int h) {
        return isOpen(h) && openHow[h] != TO_READ;
    }

    private int leastClosedHandle() {
        for (int h = 0; h < HANDLES; h++) {
            if (openFile[h] == NOTHING) {
                return h;
            }
        }
        return BUSY;
    }

    private int openNew(int place, int how) {
        if (readOnly[diskOf(place)]) {
            return READONLY;
        }
        int h = leastClosedHandle();
        if (h < 0) {
            return h;
        }
        int file = addObject(place, FILE);
        return file < 0 ? file : hold(h, file, how);
    }

    private int hold(int h, int file, int how) {
        openFile[h] = file;
        openHow[h] = how;
        position[h] = 0;
        return h;
    }

    /** Ints added are 0 but not written; parts that the file no longer reaches stop taking blocks. */
    private void setSize(int file, int n) {
        for (int i = size[file]; i < n; i++) {
            held[file * SIZE + i] = 0;
        }
        int before = countWrittenParts(file);
        writtenParts[file] &= (1 << partsIn(n)) - 1;
        size[file] = n;
        int d = diskOf(file);
        if (format[d] == LOG) {
            dead[d] += before - countWrittenParts(file);
        }
    }
}
