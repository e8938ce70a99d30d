/** The words of the document, for tests to use without more before them. */
interface Words {
    int OK = VirtualFiles.OK, NOENT = VirtualFiles.NOENT, NOTDIR = VirtualFiles.NOTDIR, ISDIR = VirtualFiles.ISDIR;
    int EXISTS = VirtualFiles.EXISTS, LOOP = VirtualFiles.LOOP, READONLY = VirtualFiles.READONLY;
    int FULL = VirtualFiles.FULL, BUSY = VirtualFiles.BUSY, UNSUPPORTED = VirtualFiles.UNSUPPORTED;
    int NOTEMPTY = VirtualFiles.NOTEMPTY, CROSS = VirtualFiles.CROSS, INVALID = VirtualFiles.INVALID, BAD = VirtualFiles.BAD;
    int TABLE = 0, NODES = 1, LOG = 2;
    int HERE = 0, UP = 15;
    int LEAST = Integer.MIN_VALUE, GREATEST = Integer.MAX_VALUE;
}
