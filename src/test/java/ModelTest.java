import java.util.ArrayList;
import java.util.List;

/** Long runs of calls, the same ones every time, each answered by VirtualFiles as by Model. */
public final class ModelTest {
    // One turn of a run drafts, acts and looks in at most forty calls.
    private static final int RUNS = 30000, CALLS = 512, CALLS_OF_ONE_TURN = 40;

    private final List<String> told = new ArrayList<>();
    // Paths at which something was made, so that most calls find something.
    private final List<List<Integer>> known = new ArrayList<>();
    private List<Integer> drafted = new ArrayList<>();
    private final VirtualFiles x = new VirtualFiles();
    private final Model model = new Model();
    private final int names;
    private final int rarity;
    private final int[] weights = {1, 3, 1, 1, 1, 1, 3, 1, 1, 7};
    private long state;
    private boolean wrong = false;

    private ModelTest(int run) {
        state = run * 0x9E3779B97F4A7C15L + 1;
        names = 2 + below(5);
        rarity = 10 + below(60);
        for (int i = 0; i < weights.length; i++) {
            weights[i] *= below(4) == 0 ? 0 : 1 + below(6);
        }
        weights[1]++;
    }

    public static void main(String[] args) {
        int wrongRuns = 0;
        for (int run = 0; run < RUNS && wrongRuns < 3; run++) {
            ModelTest test = new ModelTest(run);
            test.run();
            if (test.wrong) {
                wrongRuns++;
                System.out.println("run " + run + ":");
                test.told.forEach(call -> System.out.println("  " + call));
            }
        }
        System.out.println(wrongRuns == 0 ? RUNS + " runs are as due" : "runs are not as due");
        if (wrongRuns != 0) {
            System.exit(1);
        }
    }

    /** The next of a row of numbers that the number of the run alone decides. */
    private int below(int bound) {
        state = state * 6364136223846793005L + 1442695040888963407L;
        return (int) ((state >>> 33) % bound);
    }

    private boolean rarely() {
        return below(rarity) == 0;
    }

    private void due(String call, long got, long want) {
        if (!wrong) {
            told.add(call + " -> " + got);
            if (got != want) {
                wrong = true;
                told.add("due is " + want);
            }
        }
    }

    private void run() {
        for (int d = 0; d < 4; d++) {
            makeDisk(d, below(3));
        }
        mountDisk(below(4));
        if (below(2) == 0) {
            crowd();
        }
        while (told.size() <= CALLS - CALLS_OF_ONE_TURN && !wrong) {
            if (below(3) > 0) {
                draft();
            }
            act();
            if (below(4) == 0) {
                look();
            }
        }
    }

    /** Takes most blocks of the top first, since chance alone seldom fills a disk. */
    private void crowd() {
        for (int n = 1; n <= 3 + below(4); n++) {
            x.wipe();
            model.wipe();
            told.add("wipe()");
            drafted = List.of(n);
            step(false, n);
            int h = openFile(1);
            writeParts(h);
            if (below(4) > 0) {
                due("close(" + h + ")", x.close(h), model.close(h));
            }
        }
    }

    private void draft() {
        x.wipe();
        model.wipe();
        told.add("wipe()");
        draft(false);
        if (below(4) > 0) {
            draft(true);
        }
    }

    private void draft(boolean second) {
        List<Integer> path = new ArrayList<>();
        if (!known.isEmpty() && below(4) > 0) {
            path.addAll(known.get(below(known.size())));
        }
        int further = path.isEmpty() ? 1 + below(2) : below(3) % 2;
        if (rarely()) {
            further = below(7);
        }
        for (int i = 0; i < further; i++) {
            path.add(anyStep());
        }
        if (below(8) == 0) {
            path.add(0, 0);
        }
        List<Integer> taken = new ArrayList<>();
        for (int s : path) {
            if (step(second, s)) {
                taken.add(s);
            }
        }
        if (!second) {
            drafted = taken;
        }
    }

    private int anyStep() {
        int s = 1 + below(names);
        switch (below(12)) {
            case 0: return 15;
            case 1: return 1 + (s + 6) % 14;
            default: return rarely() ? below(18) - 1 : s;
        }
    }

    private boolean step(boolean second, int s) {
        boolean taken = x.step(second, s);
        due("step(" + second + ", " + s + ")", taken ? 1 : 0, model.step(second, s) ? 1 : 0);
        return taken;
    }

    private void remember(boolean made) {
        if (made) {
            known.add(drafted);
        }
        if (known.size() > 12) {
            known.remove(below(known.size()));
        }
    }

    private int disk() {
        return rarely() ? below(6) - 1 : below(4);
    }

    private int handle() {
        return rarely() ? below(7) - 1 : below(1 + below(5));
    }

    private int length() {
        return rarely() ? below(24) - 1 : below(3) == 0 ? 20 : below(21);
    }

    private void makeDisk(int d, int format) {
        due("make(" + d + ", " + format + ")", x.make(d, format), model.make(d, format));
    }

    private void mountDisk(int d) {
        due("mount(" + d + ")", x.mount(d), model.mount(d));
    }

    /** Each run does some things often and others never, so that rare states are reached too. */
    private void act() {
        int picked = below(sum(weights));
        int action = 0;
        while (picked >= weights[action]) {
            picked -= weights[action];
            action++;
        }
        switch (action) {
            case 0: actOnDisk(); break;
            case 1: makeDirectory(); break;
            case 2: makeLink(); break;
            case 3: due("entry()", x.entry(), model.entry()); break;
            case 4: due("remove()", x.remove(), model.remove()); break;
            case 5: due("prune()", x.prune(), model.prune()); break;
            case 6: due("rename()", x.rename(), model.rename()); break;
            case 7: due("enter()", x.enter(), model.enter()); break;
            case 8: mountDisk(disk()); break;
            default: actOnFile(); break;
        }
    }

    private static int sum(int[] numbers) {
        int sum = 0;
        for (int n : numbers) {
            sum += n;
        }
        return sum;
    }

    private void makeDirectory() {
        int answer = x.directory();
        due("directory()", answer, model.directory());
        remember(answer == VirtualFiles.OK);
    }

    private void makeLink() {
        int answer = x.link();
        due("link()", answer, model.link());
        remember(answer == VirtualFiles.OK);
    }

    private void actOnDisk() {
        int d = disk();
        int e = rarely() ? below(5) - 1 : below(4);
        switch (below(4)) {
            case 0: makeDisk(d, e); break;
            case 1: due("unmount(" + d + ")", x.unmount(d), model.unmount(d)); break;
            case 2: due("pack(" + d + ", " + e + ")", x.pack(d, e), model.pack(d, e)); break;
            default: due("sync(" + d + ")", x.sync(d), model.sync(d)); break;
        }
    }

    private void actOnFile() {
        int h = handle();
        int n = length();
        switch (below(8)) {
            case 0: case 1: openFile(rarely() ? below(6) - 1 : below(3) == 0 ? below(4) : 1); break;
            case 2: due("close(" + h + ")", x.close(h), model.close(h)); break;
            case 3: due("resize(" + h + ", " + n + ")", x.resize(h, n), model.resize(h, n)); break;
            case 4: writeParts(h); break;
            case 5: due("seek(" + h + ", " + n + ")", x.seek(h, n), model.seek(h, n)); break;
            case 6: readOn(h); break;
            default: writeOn(h); break;
        }
    }

    private int openFile(int how) {
        int answer = x.open(how);
        due("open(" + how + ")", answer, model.open(how));
        remember(answer >= 0);
        return answer;
    }

    private void readOn(int h) {
        for (int i = 1 + below(4); i > 0; i--) {
            due("read(" + h + ")", x.read(h), model.read(h));
        }
    }

    private void writeOn(int h) {
        for (int i = 1 + below(4); i > 0; i--) {
            int v = (below(1 << 16) << 16) + below(1 << 16);
            due("write(" + h + ", " + v + ")", x.write(h, v), model.write(h, v));
        }
    }

    private void writeParts(int h) {
        for (int p = below(4); p < 20; p += 4) {
            due("seek(" + h + ", " + p + ")", x.seek(h, p), model.seek(h, p));
            due("write(" + h + ", " + p + ")", x.write(h, p), model.write(h, p));
        }
    }

    private void look() {
        int d = disk();
        due("free(" + d + ")", x.free(d), model.free(d));
        boolean follow = below(2) == 0;
        int what = rarely() ? below(7) - 1 : below(5);
        due("about(" + follow + ", " + what + ")", x.about(follow, what), model.about(follow, what));
        int k = below(8) - 1;
        due("name(" + k + ")", x.name(k), model.name(k));
    }
}
