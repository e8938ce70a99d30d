/** Disks on which few blocks, or none, are free. */
final class Blocks implements Words {
    private Blocks() {
    }

    /** Disk 0 with so many free blocks and no dead one: files in directory 1 and, if need be, file 2 take the others. */
    static VirtualFiles left(int format, int left) {
        VirtualFiles x = Due.mounted(format);
        Due.directories(x, 1);
        for (int n = 1; n <= 6; n++) {
            take(x, 0, left, 1, n);
        }
        take(x, 0, left, 2);
        Due.is(left, x.free(0));
        Due.is(0, x.sync(0));
        return x;
    }

    /** Begins a file of disk d and writes into its parts until it takes five blocks or only so many are left. */
    static void take(VirtualFiles x, int d, int left, int... path) {
        if (x.free(d) <= left) {
            return;
        }
        int h = Due.at(x, path).open(1);
        for (int b = 0; b < 5 && x.free(d) > left; b++) {
            Due.is(OK, x.seek(h, 4 * b));
            Due.is(OK, x.write(h, b + 1));
        }
        Due.is(OK, x.close(h));
    }

    /** Likewise, and handle 0 is the empty file 3 at the top, opened in this way. */
    static VirtualFiles open(int format, int how, int left) {
        VirtualFiles x = left(format, left);
        Due.is(0, Due.at(x, 3).open(1));
        Due.is(OK, x.close(0));
        Due.is(0, x.open(how));
        Due.is(left, x.free(0));
        return x;
    }
}
