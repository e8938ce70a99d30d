import java.util.ArrayList;
import java.util.Collections;
import java.util.IdentityHashMap;
import java.util.LinkedList;
import java.util.List;
import java.util.Map;
import java.util.Set;
import java.util.TreeMap;
import java.util.TreeSet;

/**
 * The document told a second time, in ordinary Java and another way round, to compare VirtualFiles with: which objects
 * there are, what they take and how many entries they have is counted anew at every question, and FULL is found by
 * carrying an operation out, looking whether the disk holds too much, and taking it back.
 */
final class Model {
    private static final int TABLE = 0, NODES = 1, LOG = 2;
    private static final int HERE = 0, UP = 15;

    private static final class Disk {
        int format;
        boolean readOnly;
        int dead;
        boolean mounted;
        Thing on;
        Thing root = new Thing(1, this);
    }

    private static final class Thing {
        final int kind;
        final Disk disk;
        TreeMap<Integer, Thing> entries = new TreeMap<>();
        List<Integer> ints = new ArrayList<>();
        List<Integer> steps = new ArrayList<>();
        Set<Integer> parts = new TreeSet<>();

        Thing(int kind, Disk disk) {
            this.kind = kind;
            this.disk = disk;
        }

        boolean isDirectory() {
            return kind == 1;
        }
    }

    private static final class Handle {
        Thing file;
        int how;
        int position;
    }

    /** Where a way ends: the object, or the error that stands in its place. */
    private static final class End {
        final Thing thing;
        final int error;

        End(Thing thing) {
            this.thing = thing;
            this.error = VirtualFiles.OK;
        }

        End(int error) {
            this.thing = null;
            this.error = error;
        }

        End orNotDirectory() {
            return thing != null && !thing.isDirectory() ? new End(VirtualFiles.NOTDIR) : this;
        }
    }

    private final Disk[] disks = {new Disk(), new Disk(), new Disk(), new Disk()};
    private final Handle[] handles = new Handle[5];
    private final List<Integer> a = new ArrayList<>();
    private final List<Integer> b = new ArrayList<>();
    private Disk top;
    private Thing current;

    boolean step(boolean second, int s) {
        List<Integer> path = second ? b : a;
        if (s < 0 || s > 15 || (s == HERE && !path.isEmpty()) || path.size() == 5) {
            return false;
        }
        path.add(s);
        return true;
    }

    void wipe() {
        a.clear();
        b.clear();
    }

    // ---- what there is

    private static boolean outside(int d) {
        return d < 0 || d > 3;
    }

    private Set<Thing> thingsOf(Disk disk) {
        Set<Thing> things = Collections.newSetFromMap(new IdentityHashMap<>());
        LinkedList<Thing> toSee = new LinkedList<>();
        toSee.add(disk.root);
        for (Handle handle : handles) {
            if (handle != null && handle.file.disk == disk) {
                toSee.add(handle.file);
            }
        }
        while (!toSee.isEmpty()) {
            Thing thing = toSee.remove();
            if (things.add(thing)) {
                toSee.addAll(thing.entries.values());
            }
        }
        return things;
    }

    private static int blocks(Thing thing) {
        switch (thing.kind) {
            case 1: return thing.disk.format == TABLE && thing.entries.size() > 4 ? 2 : 1;
            case 2: return thing.disk.format == TABLE ? (thing.ints.size() + 3) / 4 : thing.parts.size();
            default: return 0;
        }
    }

    private int taken(Disk disk) {
        int sum = disk.dead;
        for (Thing thing : thingsOf(disk)) {
            sum += blocks(thing);
        }
        return sum;
    }

    private boolean holdsTooMuch(Disk disk) {
        Set<Thing> things = thingsOf(disk);
        for (Thing thing : things) {
            if (thing.entries.size() > 6 || thing.ints.size() > 20) {
                return true;
            }
        }
        return things.size() > 10 || taken(disk) > 32;
    }

    private int entriesFor(Thing wanted) {
        int count = 0;
        for (Thing thing : thingsOf(wanted.disk)) {
            for (Thing entry : thing.entries.values()) {
                count += entry == wanted ? 1 : 0;
            }
        }
        return count;
    }

    private Thing holderOf(Thing wanted) {
        for (Thing thing : thingsOf(wanted.disk)) {
            for (Thing entry : thing.entries.values()) {
                if (entry == wanted) {
                    return thing;
                }
            }
        }
        return null;
    }

    private Disk mountedOn(Thing directory) {
        for (Disk disk : disks) {
            if (disk.mounted && disk.on == directory) {
                return disk;
            }
        }
        return null;
    }

    private boolean hasOpenFile(Disk disk) {
        for (Handle handle : handles) {
            if (handle != null && handle.file.disk == disk) {
                return true;
            }
        }
        return false;
    }

    /** The blocks of files that were there and are gone now are dead on LOG. */
    private void bury(Disk disk, Set<Thing> before) {
        Set<Thing> after = thingsOf(disk);
        for (Thing thing : before) {
            if (disk.format == LOG && thing.kind == 2 && !after.contains(thing)) {
                disk.dead += blocks(thing);
            }
        }
    }

    private static void cut(Thing file, int n) {
        while (file.ints.size() > n) {
            file.ints.remove(file.ints.size() - 1);
        }
        while (file.ints.size() < n) {
            file.ints.add(0);
        }
        for (int part = 0; part < 5; part++) {
            if (n <= 4 * part && file.parts.remove(part) && file.disk.format == LOG) {
                file.disk.dead++;
            }
        }
    }

    private static Integer equalIn(Thing directory, int name) {
        for (int n : directory.entries.keySet()) {
            if (n == name || (directory.disk.format == TABLE && n % 7 == name % 7)) {
                return n;
            }
        }
        return null;
    }

    // ---- ways

    private End way(List<Integer> path, boolean follow) {
        LinkedList<Integer> steps = new LinkedList<>(path);
        Thing at = top.root;
        if (!steps.isEmpty() && steps.getFirst() == HERE) {
            steps.removeFirst();
            at = current;
        }
        int links = 0;
        while (!steps.isEmpty()) {
            int s = steps.removeFirst();
            if (!at.isDirectory()) {
                return new End(VirtualFiles.NOTDIR);
            }
            if (s == UP) {
                at = above(at);
                continue;
            }
            Integer name = equalIn(at, s);
            if (name == null) {
                return new End(VirtualFiles.NOENT);
            }
            Thing next = at.entries.get(name);
            if (next.kind == 3 && (follow || !steps.isEmpty())) {
                if (++links > 4) {
                    return new End(VirtualFiles.LOOP);
                }
                LinkedList<Integer> instead = new LinkedList<>(next.steps);
                if (!instead.isEmpty() && instead.getFirst() == HERE) {
                    instead.removeFirst();
                } else {
                    at = top.root;
                }
                steps.addAll(0, instead);
                continue;
            }
            at = next;
            while (mountedOn(at) != null) {
                at = mountedOn(at).root;
            }
        }
        return new End(at);
    }

    /** The names in the directory that a path reaches (followed); none if it reaches no directory. */
    List<Integer> namesAt(List<Integer> path) {
        End end = top == null ? new End(VirtualFiles.BAD) : way(path, true).orNotDirectory();
        return end.thing == null ? List.of() : new ArrayList<>(end.thing.entries.keySet());
    }

    private Thing above(Thing directory) {
        Thing at = directory;
        while (at == at.disk.root) {
            if (at.disk == top) {
                return at;
            }
            at = at.disk.on;
        }
        return holderOf(at);
    }

    private End placeOf(List<Integer> path) {
        if (path.isEmpty() || last(path) == HERE || last(path) == UP) {
            return new End(VirtualFiles.INVALID);
        }
        return way(path.subList(0, path.size() - 1), true).orNotDirectory();
    }

    private static int last(List<Integer> path) {
        return path.get(path.size() - 1);
    }

    // ---- disks

    int make(int d, int format) {
        if (outside(d) || format < 0 || format > 2) {
            return VirtualFiles.BAD;
        }
        if (disks[d].mounted) {
            return VirtualFiles.BUSY;
        }
        disks[d] = new Disk();
        disks[d].format = format;
        return VirtualFiles.OK;
    }

    int mount(int d) {
        if (outside(d)) {
            return VirtualFiles.BAD;
        }
        if (disks[d].mounted) {
            return VirtualFiles.BUSY;
        }
        if (top == null) {
            top = disks[d];
            current = top.root;
        } else {
            End end = way(a, true).orNotDirectory();
            if (end.thing == null) {
                return end.error;
            }
            if (end.thing == end.thing.disk.root || mountedOn(end.thing) != null) {
                return VirtualFiles.BUSY;
            }
            disks[d].on = end.thing;
        }
        disks[d].mounted = true;
        return VirtualFiles.OK;
    }

    int unmount(int d) {
        if (outside(d) || !disks[d].mounted) {
            return VirtualFiles.BAD;
        }
        boolean carries = false;
        for (Disk disk : disks) {
            carries |= disk.mounted && disk.on != null && disk.on.disk == disks[d];
        }
        if (hasOpenFile(disks[d]) || current.disk == disks[d] || carries) {
            return VirtualFiles.BUSY;
        }
        disks[d].mounted = false;
        disks[d].on = null;
        return VirtualFiles.OK;
    }

    int pack(int from, int to) {
        if (outside(from) || outside(to) || from == to) {
            return VirtualFiles.BAD;
        }
        if (disks[to].mounted || hasOpenFile(disks[from])) {
            return VirtualFiles.BUSY;
        }
        Disk copy = new Disk();
        copy.format = disks[from].format;
        copy.readOnly = true;
        copy.root = copyOf(disks[from].root, copy, new IdentityHashMap<>());
        disks[to] = copy;
        return VirtualFiles.OK;
    }

    private static Thing copyOf(Thing thing, Disk disk, Map<Thing, Thing> copies) {
        Thing copy = copies.get(thing);
        if (copy == null) {
            copy = new Thing(thing.kind, disk);
            copies.put(thing, copy);
            copy.ints.addAll(thing.ints);
            copy.steps.addAll(thing.steps);
            copy.parts.addAll(thing.parts);
            for (Map.Entry<Integer, Thing> entry : thing.entries.entrySet()) {
                copy.entries.put(entry.getKey(), copyOf(entry.getValue(), disk, copies));
            }
        }
        return copy;
    }

    int sync(int d) {
        if (outside(d)) {
            return VirtualFiles.BAD;
        }
        int were = disks[d].dead;
        disks[d].dead = 0;
        return were;
    }

    int free(int d) {
        return outside(d) ? VirtualFiles.BAD : 32 - taken(disks[d]);
    }

    // ---- the tree of names

    int enter() {
        if (top == null) {
            return VirtualFiles.BAD;
        }
        End end = way(a, true).orNotDirectory();
        if (end.thing != null) {
            current = end.thing;
        }
        return end.error;
    }

    /** The place of A, if something new may be there. */
    private End newPlace() {
        if (top == null) {
            return new End(VirtualFiles.BAD);
        }
        End place = placeOf(a);
        if (place.thing == null) {
            return place;
        }
        if (equalIn(place.thing, last(a)) != null) {
            return new End(VirtualFiles.EXISTS);
        }
        return place.thing.disk.readOnly ? new End(VirtualFiles.READONLY) : place;
    }

    private int put(Thing directory, int name, Thing thing) {
        directory.entries.put(name, thing);
        if (holdsTooMuch(directory.disk)) {
            directory.entries.remove(name);
            return VirtualFiles.FULL;
        }
        return VirtualFiles.OK;
    }

    int directory() {
        End place = newPlace();
        return place.thing == null ? place.error : put(place.thing, last(a), new Thing(1, place.thing.disk));
    }

    int link() {
        End place = newPlace();
        if (place.thing == null) {
            return place.error;
        }
        if (place.thing.disk.format == TABLE) {
            return VirtualFiles.UNSUPPORTED;
        }
        Thing link = new Thing(3, place.thing.disk);
        link.steps.addAll(b);
        return put(place.thing, last(a), link);
    }

    int entry() {
        if (top == null) {
            return VirtualFiles.BAD;
        }
        End file = way(b, false);
        if (file.thing == null) {
            return file.error;
        }
        if (file.thing.isDirectory()) {
            return VirtualFiles.ISDIR;
        }
        End place = newPlace();
        if (place.thing == null) {
            return place.error;
        }
        if (place.thing.disk != file.thing.disk) {
            return VirtualFiles.CROSS;
        }
        if (place.thing.disk.format != NODES || file.thing.kind == 3) {
            return VirtualFiles.UNSUPPORTED;
        }
        return put(place.thing, last(a), file.thing);
    }

    private void take(Thing directory, int name) {
        Set<Thing> before = thingsOf(directory.disk);
        directory.entries.remove(name);
        bury(directory.disk, before);
    }

    int remove() {
        if (top == null) {
            return VirtualFiles.BAD;
        }
        End place = placeOf(a);
        if (place.thing == null) {
            return place.error;
        }
        Integer name = equalIn(place.thing, last(a));
        if (name == null) {
            return VirtualFiles.NOENT;
        }
        if (place.thing.entries.get(name).isDirectory()) {
            return VirtualFiles.ISDIR;
        }
        if (place.thing.disk.readOnly) {
            return VirtualFiles.READONLY;
        }
        take(place.thing, name);
        return VirtualFiles.OK;
    }

    int prune() {
        if (top == null) {
            return VirtualFiles.BAD;
        }
        End place = placeOf(a);
        if (place.thing == null) {
            return place.error;
        }
        Integer name = equalIn(place.thing, last(a));
        if (name == null) {
            return VirtualFiles.NOENT;
        }
        Thing directory = place.thing.entries.get(name);
        if (!directory.isDirectory()) {
            return VirtualFiles.NOTDIR;
        }
        if (mountedOn(directory) != null || directory == current) {
            return VirtualFiles.BUSY;
        }
        if (directory.disk.readOnly) {
            return VirtualFiles.READONLY;
        }
        if (!directory.entries.isEmpty()) {
            return VirtualFiles.NOTEMPTY;
        }
        take(place.thing, name);
        return VirtualFiles.OK;
    }

    int rename() {
        if (top == null) {
            return VirtualFiles.BAD;
        }
        End from = placeOf(a);
        if (from.thing == null) {
            return from.error;
        }
        Integer oldName = equalIn(from.thing, last(a));
        if (oldName == null) {
            return VirtualFiles.NOENT;
        }
        Thing moved = from.thing.entries.get(oldName);
        End to = placeOf(b);
        if (to.thing == null) {
            return to.error;
        }
        if (to.thing.disk != from.thing.disk) {
            return VirtualFiles.CROSS;
        }
        if (to.thing.disk.readOnly) {
            return VirtualFiles.READONLY;
        }
        if (moved.isDirectory() && mountedOn(moved) != null) {
            return VirtualFiles.BUSY;
        }
        for (Thing up = to.thing; up != null; up = holderOf(up)) {
            if (up == moved) {
                return VirtualFiles.INVALID;
            }
        }
        Integer other = equalIn(to.thing, last(b));
        return other == null ? move(from.thing, oldName, to.thing) : moveOnto(from.thing, oldName, to.thing, other);
    }

    private int move(Thing from, int oldName, Thing to) {
        Thing moved = from.entries.remove(oldName);
        to.entries.put(last(b), moved);
        if (holdsTooMuch(to.disk)) {
            to.entries.remove(last(b));
            from.entries.put(oldName, moved);
            return VirtualFiles.FULL;
        }
        return VirtualFiles.OK;
    }

    private int moveOnto(Thing from, int oldName, Thing to, int other) {
        Thing moved = from.entries.get(oldName);
        Thing met = to.entries.get(other);
        if (from == to && oldName == other) {
            return move(from, oldName, to);
        }
        if (moved == met) {
            return VirtualFiles.OK;
        }
        if (met.isDirectory() && !moved.isDirectory()) {
            return VirtualFiles.ISDIR;
        }
        if (!met.isDirectory() && moved.isDirectory()) {
            return VirtualFiles.NOTDIR;
        }
        if (met.isDirectory() && (mountedOn(met) != null || met == current)) {
            return VirtualFiles.BUSY;
        }
        if (!met.entries.isEmpty()) {
            return VirtualFiles.NOTEMPTY;
        }
        take(to, other);
        return move(from, oldName, to);
    }

    int about(boolean follow, int what) {
        if (top == null || what < 0 || what > 4) {
            return VirtualFiles.BAD;
        }
        End end = way(a, follow);
        if (end.thing == null) {
            return end.error;
        }
        Thing thing = end.thing;
        switch (what) {
            case 0: return thing.kind;
            case 1: return thing.entries.size() + thing.ints.size() + thing.steps.size();
            case 2: return entriesFor(thing);
            case 3: return blocks(thing);
            default: return List.of(disks).indexOf(thing.disk);
        }
    }

    int name(int k) {
        if (top == null) {
            return VirtualFiles.BAD;
        }
        End end = way(a, true).orNotDirectory();
        if (end.thing == null) {
            return end.error;
        }
        List<Integer> names = new ArrayList<>(end.thing.entries.keySet());
        return k >= 0 && k < names.size() ? names.get(k) : 0;
    }

    // ---- open files

    private int hold(int h, Thing file, int how) {
        handles[h] = new Handle();
        handles[h].file = file;
        handles[h].how = how;
        return h;
    }

    int open(int how) {
        if (top == null || how < 0 || how > 3) {
            return VirtualFiles.BAD;
        }
        int h = 0;
        while (h < 5 && handles[h] != null) {
            h++;
        }
        End end = way(a, true);
        if (end.error == VirtualFiles.NOENT && how % 2 == 1) {
            End place = newPlace();
            if (place.error == VirtualFiles.READONLY) {
                return VirtualFiles.READONLY;
            }
            if (place.thing != null) {
                Thing file = new Thing(2, place.thing.disk);
                int put = h == 5 ? VirtualFiles.BUSY : put(place.thing, last(a), file);
                return put == VirtualFiles.OK ? hold(h, file, how) : put;
            }
        }
        if (end.thing == null) {
            return end.error;
        }
        if (end.thing.isDirectory()) {
            return VirtualFiles.ISDIR;
        }
        if (how > 0 && end.thing.disk.readOnly) {
            return VirtualFiles.READONLY;
        }
        if (h == 5) {
            return VirtualFiles.BUSY;
        }
        if (how == 2) {
            cut(end.thing, 0);
        }
        return hold(h, end.thing, how);
    }

    private Handle handle(int h) {
        return h < 0 || h > 4 ? null : handles[h];
    }

    int close(int h) {
        Handle handle = handle(h);
        if (handle == null) {
            return VirtualFiles.BAD;
        }
        Set<Thing> before = thingsOf(handle.file.disk);
        handles[h] = null;
        bury(handle.file.disk, before);
        return VirtualFiles.OK;
    }

    long read(int h) {
        Handle handle = handle(h);
        if (handle == null || handle.how > 1) {
            return VirtualFiles.BAD;
        }
        return handle.position < handle.file.ints.size() ? handle.file.ints.get(handle.position++) : 0;
    }

    int write(int h, int v) {
        Handle handle = handle(h);
        if (handle == null || handle.how == 0) {
            return VirtualFiles.BAD;
        }
        Thing file = handle.file;
        List<Integer> intsBefore = new ArrayList<>(file.ints);
        Set<Integer> partsBefore = new TreeSet<>(file.parts);
        int deadBefore = file.disk.dead;
        int at = handle.how == 3 ? file.ints.size() : handle.position;
        while (file.ints.size() <= at) {
            file.ints.add(0);
        }
        file.ints.set(at, v);
        if (!file.parts.add(at / 4) && file.disk.format == LOG) {
            file.disk.dead++;
        }
        if (holdsTooMuch(file.disk)) {
            file.ints = intsBefore;
            file.parts = partsBefore;
            file.disk.dead = deadBefore;
            return VirtualFiles.FULL;
        }
        handle.position = at + 1;
        return VirtualFiles.OK;
    }

    int seek(int h, int p) {
        if (handle(h) == null || p < 0 || p > 20) {
            return VirtualFiles.BAD;
        }
        handle(h).position = p;
        return VirtualFiles.OK;
    }

    int resize(int h, int n) {
        Handle handle = handle(h);
        if (handle == null || handle.how == 0 || n < 0 || n > 20) {
            return VirtualFiles.BAD;
        }
        List<Integer> intsBefore = new ArrayList<>(handle.file.ints);
        cut(handle.file, n);
        if (holdsTooMuch(handle.file.disk)) {
            handle.file.ints = intsBefore;
            return VirtualFiles.FULL;
        }
        return VirtualFiles.OK;
    }
}
