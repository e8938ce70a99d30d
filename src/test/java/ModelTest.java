import java.util.ArrayList;
import java.util.List;
import java.util.Map;
import java.util.TreeMap;

/**
 * Long runs of calls, the same ones every time, each answered by VirtualFiles as by Model. The answers are counted, since
 * runs that never meet an error say nothing about it.
 */
public final class ModelTest implements Words {
    // One turn of a run drafts, acts and looks in at most fifty calls.
    private static final int RUNS = 30000, CALLS = 512, CALLS_OF_ONE_TURN = 50, OFTEN_ENOUGH = 50;

    /** The names of the answers 0, -1, -2, .. */
    private static final String[] WORDS = {
        "OK", "NOENT", "NOTDIR", "ISDIR", "EXISTS", "LOOP", "READONLY", "FULL", "BUSY", "UNSUPPORTED", "NOTEMPTY", "CROSS",
        "INVALID", "BAD"};

    private static final String WAY = " NOENT NOTDIR LOOP";
    private static final String PLACE = " BAD INVALID" + WAY;

    /** What each call may be refused with, by the document. */
    private static final Map<String, String> REFUSALS = Map.ofEntries(
        Map.entry("make", "BAD BUSY"),
        Map.entry("mount", "BAD BUSY" + WAY),
        Map.entry("unmount", "BAD BUSY"),
        Map.entry("pack", "BAD BUSY"),
        Map.entry("sync", "BAD"),
        Map.entry("free", "BAD"),
        Map.entry("enter", "BAD" + WAY),
        Map.entry("directory", "EXISTS READONLY FULL" + PLACE),
        Map.entry("link", "EXISTS READONLY UNSUPPORTED FULL" + PLACE),
        Map.entry("entry", "ISDIR EXISTS READONLY CROSS UNSUPPORTED FULL" + PLACE),
        Map.entry("open", "BAD READONLY BUSY FULL ISDIR" + WAY),
        Map.entry("close", "BAD"),
        Map.entry("read", "BAD"),
        Map.entry("write", "BAD FULL"),
        Map.entry("seek", "BAD"),
        Map.entry("resize", "BAD FULL"),
        Map.entry("remove", "ISDIR READONLY" + PLACE),
        Map.entry("prune", "BUSY READONLY NOTEMPTY" + PLACE),
        Map.entry("rename", "CROSS READONLY BUSY ISDIR NOTEMPTY FULL" + PLACE),
        Map.entry("about", "BAD" + WAY),
        Map.entry("name", "BAD" + WAY));

    private static final Map<String, Integer> ANSWERS = new TreeMap<>();

    private final List<String> told = new ArrayList<>();
    private final VirtualFiles x = new VirtualFiles();
    private final Model model = new Model();
    private final int names;
    private final int rarity;
    private final int[] weights = {1, 3, 1, 1, 1, 1, 3, 1, 1, 7};
    private long state;
    private boolean wrong = false;

    private ModelTest(int run) {
        state = run * 0x9E3779B97F4A7C15L + 1;
        names = 2 + below(13);
        rarity = 10 + below(60);
        for (int i = 0; i < weights.length; i++) {
            weights[i] *= below(4) == 0 ? 0 : 1 + below(6);
        }
        weights[1]++;
    }

    public static void main(String[] args) {
        int wrongRuns = 0;
        for (int run = 0; run < RUNS && wrongRuns < 3; run++) {
            ModelTest test = new ModelTest(run);
            test.run();
            if (test.wrong) {
                wrongRuns++;
                System.out.println("run " + run + ":");
                test.told.forEach(call -> System.out.println("  " + call));
            }
        }
        boolean met = wrongRuns == 0 && refusalsWereMet();
        System.out.println(wrongRuns == 0 ? RUNS + " runs are as due" : "runs are not as due");
        if (wrongRuns != 0 || !met) {
            System.exit(1);
        }
    }

    private static boolean refusalsWereMet() {
        boolean met = true;
        for (Map.Entry<String, String> refusals : REFUSALS.entrySet()) {
            for (String refusal : (refusals.getValue() + " OK").split(" ")) {
                String answer = refusals.getKey() + " " + refusal;
                int times = ANSWERS.getOrDefault(answer, 0);
                if (times < OFTEN_ENOUGH) {
                    System.out.println("too rare to tell anything: " + answer + ", " + times + " times");
                    met = false;
                }
            }
        }
        return met;
    }

    /** The next of a row of numbers that the number of the run alone decides. */
    private int below(int bound) {
        state = state * 6364136223846793005L + 1442695040888963407L;
        return (int) ((state >>> 33) % bound);
    }

    private boolean rarely() {
        return below(rarity) == 0;
    }

    private void due(String call, long got, long want) {
        if (!wrong) {
            told.add(call + " -> " + got);
            String method = call.substring(0, call.indexOf('('));
            String answer = got >= 0 || got < BAD ? WORDS[0] : WORDS[(int) -got];
            ANSWERS.merge(method + " " + answer, 1, Integer::sum);
            if (got != want) {
                wrong = true;
                told.add("due is " + want);
            }
        }
    }

    private void run() {
        for (int d = 0; d < 4; d++) {
            makeDisk(d, below(3));
        }
        if (below(8) == 0) {
            turn();
        }
        int disk = below(4);
        mountDisk(disk);
        List<Integer> root = List.of();
        // What a disk takes must not be told by the disk at the top, which mostly has another format.
        if (below(2) == 0) {
            root = List.of(14);
            disk = (disk + 1) % 4;
            mountBelow(disk, root);
        }
        if (below(2) == 0) {
            crowd(root);
        }
        if (below(4) == 0) {
            mountCopy(disk);
        }
        while (told.size() <= CALLS - CALLS_OF_ONE_TURN && !wrong) {
            turn();
        }
    }

    private void turn() {
        if (below(3) > 0) {
            draftBoth();
        }
        act();
        if (below(4) == 0) {
            look();
        }
    }

    private void mountBelow(int d, List<Integer> path) {
        draft(false, path);
        due("directory()", x.directory(), model.directory());
        mountDisk(d);
        if (below(2) == 0) {
            due("enter()", x.enter(), model.enter());
        }
    }

    /** Takes most blocks of a disk first, since chance alone seldom fills a disk or a directory. */
    private void crowd(List<Integer> root) {
        int inside = below(3) == 0 ? 0 : 4 + below(3);
        List<Integer> directory = with(root, 1);
        if (inside > 0) {
            draft(false, directory);
            due("directory()", x.directory(), model.directory());
        }
        for (int n = 2; n < 2 + inside; n++) {
            crowdFile(with(directory, n));
        }
        for (int n = 2 + below(5); n < 7; n++) {
            crowdFile(with(root, n));
        }
    }

    private static List<Integer> with(List<Integer> path, int name) {
        List<Integer> longer = new ArrayList<>(path);
        longer.add(name);
        return longer;
    }

    private void crowdFile(List<Integer> path) {
        draft(false, path);
        int h = openFile(1);
        if (below(4) > 0) {
            writeParts(h);
        }
        if (below(3) > 0) {
            due("close(" + h + ")", x.close(h), model.close(h));
        }
    }

    /** A copy with something on it is read-only and stands in the tree, which chance alone seldom comes to. */
    private void mountCopy(int d) {
        int copy = (d + 1) % 4;
        for (int h = 0; h < 5; h++) {
            due("close(" + h + ")", x.close(h), model.close(h));
        }
        due("pack(" + d + ", " + copy + ")", x.pack(d, copy), model.pack(d, copy));
        mountBelow(copy, List.of(13));
    }

    private void draft(boolean second, List<Integer> path) {
        if (!second) {
            x.wipe();
            model.wipe();
            told.add("wipe()");
        }
        for (int s : path) {
            due("step(" + second + ", " + s + ")", x.step(second, s) ? 1 : 0, model.step(second, s) ? 1 : 0);
        }
    }

    /** Half of the time one path leads to something and the other on to a further name, as most that moves names needs. */
    private void draftBoth() {
        int plan = below(4);
        draft(false, plan > 1 ? anyPath() : pathDown(plan));
        if (below(4) > 0) {
            draft(true, plan > 1 ? anyPath() : pathDown(1 - plan));
        }
    }

    private List<Integer> anyPath() {
        return pathDown(rarely() ? below(7) : below(3) % 2);
    }

    /** Goes down names that are there, so that most calls find something, and then some further steps. */
    private List<Integer> pathDown(int further) {
        List<Integer> path = new ArrayList<>();
        if (below(3) == 0) {
            path.add(0);
        }
        if (below(8) == 0) {
            path.add(15);
        }
        for (int down = further == 0 ? 1 + below(4) : below(4); down > 0; down--) {
            List<Integer> there = model.namesAt(path);
            if (!there.isEmpty()) {
                path.add(there.get(below(there.size())));
            }
        }
        for (int i = path.isEmpty() ? -1 : 0; i < further; i++) {
            path.add(anyStep());
        }
        return path;
    }

    private int anyStep() {
        int s = 1 + below(names);
        switch (below(12)) {
            case 0: return 15;
            case 1: return 1 + (s + 6) % 14;
            default: return rarely() ? below(18) - 1 : s;
        }
    }

    private int disk() {
        return rarely() ? below(6) - 1 : below(4);
    }

    private int handle() {
        return rarely() ? below(7) - 1 : below(1 + below(5));
    }

    private int length() {
        return rarely() ? below(24) - 1 : below(3) == 0 ? 20 : below(21);
    }

    private void makeDisk(int d, int format) {
        due("make(" + d + ", " + format + ")", x.make(d, format), model.make(d, format));
    }

    private void mountDisk(int d) {
        due("mount(" + d + ")", x.mount(d), model.mount(d));
    }

    /** Each run does some things often and others never, so that rare states are reached too. */
    private void act() {
        int picked = below(sum(weights));
        int action = 0;
        while (picked >= weights[action]) {
            picked -= weights[action];
            action++;
        }
        switch (action) {
            case 0: actOnDisk(); break;
            case 1: due("directory()", x.directory(), model.directory()); break;
            case 2: due("link()", x.link(), model.link()); break;
            case 3: actOnEntries(); break;
            case 4: due("remove()", x.remove(), model.remove()); break;
            case 5: due("prune()", x.prune(), model.prune()); break;
            case 6: due("rename()", x.rename(), model.rename()); break;
            case 7: due("enter()", x.enter(), model.enter()); break;
            case 8: mountDisk(disk()); break;
            default: actOnFile(); break;
        }
    }

    private static int sum(int[] numbers) {
        int sum = 0;
        for (int n : numbers) {
            sum += n;
        }
        return sum;
    }

    private void actOnEntries() {
        if (below(2) == 0) {
            draft(false, pathDown(1));
            draft(true, pathDown(0));
        }
        due("entry()", x.entry(), model.entry());
    }

    private void actOnDisk() {
        int d = disk();
        int e = rarely() ? below(5) - 1 : below(4);
        switch (below(4)) {
            case 0: makeDisk(d, e); break;
            case 1: due("unmount(" + d + ")", x.unmount(d), model.unmount(d)); break;
            case 2: due("pack(" + d + ", " + e + ")", x.pack(d, e), model.pack(d, e)); break;
            default: due("sync(" + d + ")", x.sync(d), model.sync(d)); break;
        }
    }

    private void actOnFile() {
        int h = handle();
        int n = length();
        switch (below(8)) {
            case 0: case 1: openFile(rarely() ? below(6) - 1 : below(3) == 0 ? below(4) : 1); break;
            case 2: due("close(" + h + ")", x.close(h), model.close(h)); break;
            case 3: due("resize(" + h + ", " + n + ")", x.resize(h, n), model.resize(h, n)); break;
            case 4: writeParts(h); break;
            case 5: due("seek(" + h + ", " + n + ")", x.seek(h, n), model.seek(h, n)); break;
            case 6: readOn(h); break;
            default: writeOn(h); break;
        }
    }

    private int openFile(int how) {
        int answer = x.open(how);
        due("open(" + how + ")", answer, model.open(how));
        return answer;
    }

    private void readOn(int h) {
        for (int i = 1 + below(4); i > 0; i--) {
            due("read(" + h + ")", x.read(h), model.read(h));
        }
    }

    private void writeOn(int h) {
        for (int i = 1 + below(4); i > 0; i--) {
            int v = (below(1 << 16) << 16) + below(1 << 16);
            due("write(" + h + ", " + v + ")", x.write(h, v), model.write(h, v));
        }
    }

    private void writeParts(int h) {
        for (int p = below(4); p < 20; p += 4) {
            due("seek(" + h + ", " + p + ")", x.seek(h, p), model.seek(h, p));
            due("write(" + h + ", " + p + ")", x.write(h, p), model.write(h, p));
        }
    }

    private void look() {
        int d = disk();
        due("free(" + d + ")", x.free(d), model.free(d));
        boolean follow = below(2) == 0;
        int what = rarely() ? below(7) - 1 : below(5);
        due("about(" + follow + ", " + what + ")", x.about(follow, what), model.about(follow, what));
        int k = below(8) - 1;
        due("name(" + k + ")", x.name(k), model.name(k));
    }
}
