/** The promises 2 to 10 and 20: each sentence that names a boundary. */
public final class FileEdgesTest {
    private static final int[] NO_INODES = {-1, 64, 256, Integer.MIN_VALUE, Integer.MAX_VALUE};
    private static final int[] NO_NAMES = {0, -1, 65536, Integer.MIN_VALUE, Integer.MAX_VALUE};

    /** 1 a directory with a file 2; 3 a file; 4 an empty directory; names are the inodes' numbers. */
    private static DiskPool tree() {
        DiskPool pool = new DiskPool(6, 3, 48);
        pool.make(0, 1, true);
        pool.make(1, 2, false);
        pool.make(0, 3, false);
        pool.make(0, 4, true);
        return pool;
    }

    /** The same one, in which no block is free: 3 has them all. */
    private static DiskPool full() {
        DiskPool pool = tree();
        for (int size = 1024; size < 35 * 64; size += 1024) pool.cut(3, size);
        pool.cut(3, 35 * 64);
        Due.due("no block is free", 0, () -> pool.look(13));
        return pool;
    }

    private static void tell(DiskPool pool, String what, long want, Due.Call call) {
        Due.refused(what, want, pool, call);
    }

    // Promise 2

    private static void lowestBytes() {
        DiskPool pool = tree();
        Due.due("one", 1, () -> pool.feed(1, 0x1FFL));
        Due.due("eight", 9, () -> pool.feed(8, 0x8070605040302010L));
        Due.due("seven", 16, () -> pool.feed(7, -1L));
        Due.due("written", 16, () -> pool.write(3, 0));
        Due.due("the lowest byte alone, then all", 0x70605040302010FFL, () -> pool.read(3, 0));
        Due.due("the highest one, then seven", 0xFFFFFFFFFFFFFF80L, () -> pool.read(3, 8));
    }

    private static void notOneToEight() {
        DiskPool pool = tree();
        for (int n : new int[] {0, 9, -1, Integer.MIN_VALUE, Integer.MAX_VALUE}) {
            Due.refused("feed(" + n + ")", Due.ARGUMENT, pool, () -> pool.feed(n, 1));
        }
        for (int n = 1; n <= 8; n++) {
            int many = n;
            Due.due("feed(" + n + ")", n * (n + 1) / 2, () -> pool.feed(many, 1));
        }
    }

    private static void moreThan512() {
        DiskPool pool = tree();
        for (int i = 0; i < 63; i++) pool.feed(8, 1);
        Due.due("505", 505, () -> pool.feed(1, 1));
        Due.refused("513", Due.STATE, pool, () -> pool.feed(8, 1));
        Due.due("512", 512, () -> pool.feed(7, 1));
        for (int n : new int[] {1, 8}) Due.refused("above 512", Due.STATE, pool, () -> pool.feed(n, 1));
        Due.due("all 512", 512, () -> pool.write(3, 0));
        Due.due("none is left", 1, () -> pool.feed(1, 1));
    }

    // Promise 3

    private static void leastFreeInode() {
        DiskPool pool = new DiskPool(8, 3, 48);
        for (int i = 1; i <= 63; i++) {
            int inode = i;
            Due.due("the next", inode, () -> pool.make(0, inode, inode % 2 == 0));
        }
        for (int i : new int[] {63, 40, 1}) pool.remove(0, i);
        for (int i : new int[] {1, 40, 63}) Due.due("the least", i, () -> pool.make(0, 100 + i, false));
        Due.due("a file again", 1, () -> pool.node(40, 0));
        Due.due("empty", 0, () -> pool.node(63, 1) + pool.node(63, 2));
        Due.due("none", -3, () -> pool.make(0, 1, false));
    }

    private static void firstOfMake() {
        DiskPool pool = new DiskPool(8, 3, 48);
        pool.make(0, 1, true);
        for (int i = 2; i <= 63; i++) pool.make(0, i, false);
        Due.due("a file, ahead of no inode", -5, () -> pool.make(2, 1, false));
        Due.due("the name, ahead of no inode", -2, () -> pool.make(0, 63, false));
        Due.due("no inode", -3, () -> pool.make(0, 64, false));
        for (int size = 1024; size <= 8192; size += 1024) pool.cut(2, size);
        Due.due("no block is free", 0, () -> { pool.cut(2, 64 * 129); return pool.look(13); });
        tell(pool, "no inode, ahead of no block", -3, () -> pool.make(1, 1, false));
        pool.remove(0, 63);
        tell(pool, "no block", -4, () -> pool.make(1, 1, false));
        Due.due("no such directory, ahead of no block", -1, () -> pool.make(63, 1, false));
        Due.due("the name, ahead of no block", -2, () -> pool.make(0, 62, false));
        Due.due("an empty entry needs no block", 63, () -> pool.make(0, 63, false));
    }

    private static void powerLostInMake() {
        DiskPool pool = Pools.brimful();
        pool.lose(1);
        Due.due("power was lost", -9, () -> pool.make(0, 7, false));
        Due.due("off", Due.STATE, () -> pool.make(0, 7, false));
    }

    private static void noSuchInode() {
        for (int i : NO_INODES) {
            DiskPool pool = tree();
            Due.refused("make", Due.ARGUMENT, pool, () -> pool.make(i, 9, false));
            Due.due("find", Due.ARGUMENT, () -> pool.find(i, 1));
            Due.due("write", Due.ARGUMENT, () -> pool.write(i, 0));
            Due.due("cut", Due.ARGUMENT, () -> pool.cut(i, 0));
            Due.due("read", Due.ARGUMENT, () -> pool.read(i, 0));
            Due.due("move from", Due.ARGUMENT, () -> pool.move(i, 1, 0, 9));
            Due.due("move to", Due.ARGUMENT, () -> pool.move(0, 1, i, 9));
            Due.due("remove", Due.ARGUMENT, () -> pool.remove(i, 1));
            Due.due("node", Due.ARGUMENT, () -> pool.node(i, 0));
        }
        DiskPool pool = tree();
        Due.due("0 is one", 1, () -> pool.find(0, 1));
        Due.due("63 is one", -1, () -> pool.find(63, 1));
        Due.due("63 is one", -1, () -> pool.make(63, 1, true));
        Due.due("63 is one", -1, () -> pool.write(63, 0));
        Due.due("63 is one", -1, () -> pool.cut(63, 0));
        Due.due("63 is one", -1, () -> pool.move(63, 1, 0, 1));
        Due.due("63 is one", -1, () -> pool.move(0, 1, 63, 1));
        Due.due("63 is one", -1, () -> pool.remove(63, 1));
        Due.due("63 is one", 0, () -> pool.node(63, 0));
        Due.due("63 is one", Due.ELEMENT, () -> pool.read(63, 0));
    }

    private static void noSuchName() {
        for (int name : NO_NAMES) {
            DiskPool pool = tree();
            Due.refused("make", Due.ARGUMENT, pool, () -> pool.make(0, name, false));
            Due.due("find", Due.ARGUMENT, () -> pool.find(0, name));
            Due.due("move from", Due.ARGUMENT, () -> pool.move(0, name, 0, 9));
            Due.refused("move to", Due.ARGUMENT, pool, () -> pool.move(0, 1, 0, name));
            Due.due("remove", Due.ARGUMENT, () -> pool.remove(0, name));
        }
        DiskPool pool = tree();
        Due.due("65535 is one", 5, () -> pool.make(0, 65535, false));
        Due.due("65535 is one", 5, () -> pool.find(0, 65535));
        Due.due("1 is one", 0, () -> pool.move(0, 65535, 4, 1));
        Due.due("65535 is one", 0, () -> pool.move(4, 1, 4, 65535));
        Due.due("65535 is one", 0, () -> pool.remove(4, 65535));
    }

    private static void whenItIsOff() {
        DiskPool pool = tree();
        pool.feed(1, 1);
        pool.off();
        Due.refused("make", Due.STATE, pool, () -> pool.make(0, 9, false));
        Due.due("find", Due.STATE, () -> pool.find(0, 1));
        Due.refused("write", Due.STATE, pool, () -> pool.write(3, 0));
        Due.due("cut", Due.STATE, () -> pool.cut(3, 0));
        Due.due("read", Due.STATE, () -> pool.read(0, 0));
        Due.due("move", Due.STATE, () -> pool.move(0, 3, 0, 9));
        Due.due("remove", Due.STATE, () -> pool.remove(0, 3));
        Due.due("sync", Due.STATE, pool::sync);
        Due.due("node", Due.STATE, () -> pool.node(0, 0));
    }

    // Promise 4

    private static void finding() {
        DiskPool pool = new DiskPool(8, 3, 48);
        Due.due("in an empty root", -1, () -> pool.find(0, 1));
        for (int i = 1; i <= 17; i++) pool.make(0, 1000 + i, i == 17);
        for (int i : new int[] {1, 16, 17}) Due.due("the entry " + i, i, () -> pool.find(0, 1000 + i));
        Due.due("in an empty directory", -1, () -> pool.find(17, 1001));
        Due.due("in a file", -5, () -> pool.find(1, 1001));
        Due.due("in none", -1, () -> pool.find(18, 1001));
        pool.remove(0, 1016);
        Due.due("what was removed", -1, () -> pool.find(0, 1016));
        Due.due("behind an empty entry", 17, () -> pool.find(0, 1017));
    }

    // Promise 5

    private static void writingAtTheEdges() {
        DiskPool pool = tree();
        Pools.feed(pool, 512, 1);
        Due.due("all 512 at 0", 512, () -> pool.write(3, 0));
        Pools.feed(pool, 1, 2);
        Due.due("at the end", 513, () -> pool.write(3, 512));
        Pools.feed(pool, 1, 3);
        Due.due("the last byte", 513, () -> pool.write(3, 512));
        Pools.feed(pool, 2, 4);
        Due.due("the last byte and one more", 514, () -> pool.write(3, 512));
        Due.due("both", 0x0404L, () -> pool.read(3, 512));
        Pools.feed(pool, 8, 5);
        Due.due("over an edge of blocks", 514, () -> pool.write(3, 60));
        Due.due("up to it", 0x0505050505050505L, () -> pool.read(3, 60));
        Due.due("ahead of it", 0x01, () -> pool.read(3, 59) & 255);
        Due.due("behind it", 0x01, () -> pool.read(3, 68) & 255);
        Due.due("nine blocks", 9, () -> pool.node(3, 4));
    }

    private static void writingNothing() {
        DiskPool pool = tree();
        pool.cut(3, 10);
        pool.sync();
        int operations = pool.look(16);
        for (int offset : new int[] {0, 5, 10}) Due.due("nothing at " + offset, 10, () -> pool.write(3, offset));
        Due.due("changes nothing", 0, () -> pool.look(15));
        Due.due("three operations", operations + 3, () -> pool.look(16));
        Due.due("nothing above its size", -8, () -> pool.write(3, 11));
        Due.due("nothing into a directory", -5, () -> pool.write(4, 0));
        Due.due("nothing into none", -1, () -> pool.write(5, 0));
    }

    private static void tapeIsUsedUp() {
        DiskPool pool = full();
        Object[][] cases = {{5, 0, -1}, {4, 0, -5}, {3, -1, -8}, {3, 35 * 64 + 1, -8}, {3, 35 * 64, -4}, {3, 0, 35 * 64}};
        for (Object[] c : cases) {
            pool.feed(3, 1);
            Due.due("write(" + c[0] + ", " + c[1] + ")", (int) c[2], () -> pool.write((int) c[0], (int) c[1]));
            Due.due("used up by " + c[2], 0, () -> pool.look(12));
        }
        DiskPool lost = Pools.brimful();
        lost.lose(1);
        lost.feed(3, 1);
        Due.due("power lost", -9, () -> lost.write(6, 0));
        Due.due("used up by -9", 0, () -> lost.look(12));
        lost.feed(3, 1);
        Due.due("thrown", Due.STATE, () -> lost.write(6, 0));
        Due.due("thrown", Due.ARGUMENT, () -> lost.write(64, 0));
        Due.due("not used up", 3, () -> lost.look(12));
    }

    private static void firstOfWrite() {
        DiskPool pool = full();
        Due.due("none, ahead of the offset", -1, () -> pool.write(5, -1));
        Due.due("a directory, ahead of the offset", -5, () -> pool.write(4, -1));
        for (int offset : new int[] {-1, 35 * 64 + 1, Integer.MIN_VALUE, Integer.MAX_VALUE}) {
            Pools.feed(pool, 65, 1);
            Due.due("out of bounds, ahead of no block", -8, () -> pool.write(3, offset));
        }
        Pools.feed(pool, 2, 1);
        Due.due("no block", -4, () -> pool.write(3, 35 * 64 - 1));
        Due.due("nothing is written", 0, () -> pool.read(3, 35 * 64 - 1));
        Pools.feed(pool, 1, 1);
        Due.due("none is needed", 35 * 64, () -> pool.write(3, 35 * 64 - 1));
        Due.due("it is written", 1, () -> pool.read(3, 35 * 64 - 1));
    }

    // Promise 6

    private static void cutting() {
        DiskPool pool = tree();
        Pools.feed(pool, 130, 255);
        pool.write(3, 0);
        Due.due("the same size", 130, () -> pool.cut(3, 130));
        Due.due("one less", 129, () -> pool.cut(3, 129));
        Due.due("one more", 130, () -> pool.cut(3, 130));
        Due.due("a 0", 0x00FFL, () -> pool.read(3, 128));
        Due.due("an edge of blocks", 128, () -> pool.cut(3, 128));
        Due.due("two blocks", 2, () -> pool.node(3, 4));
        Due.due("one byte of the next", 129, () -> pool.cut(3, 129));
        Due.due("three blocks", 3, () -> pool.node(3, 4));
        Due.due("a 0", 0, () -> pool.read(3, 128));
        Due.due("to nothing", 0, () -> pool.cut(3, 0));
        Due.due("and again", 0, () -> pool.cut(3, 0));
        Due.due("no extent", 0, () -> pool.node(3, 2));
        Due.due("with 0s", 8, () -> pool.cut(3, 8));
        Due.due("with 0s", 0, () -> pool.read(3, 0));
    }

    private static void cuttingOutOfBounds() {
        DiskPool pool = tree();
        for (int size : new int[] {-1, 1025, Integer.MIN_VALUE, Integer.MAX_VALUE}) {
            tell(pool, "cut to " + size, -8, () -> pool.cut(3, size));
        }
        Due.due("just so far", 1024, () -> pool.cut(3, 1024));
        Due.due("one too far", -8, () -> pool.cut(3, 2049));
        Due.due("just so far", 2048, () -> pool.cut(3, 2048));
        Due.due("to one", 1, () -> pool.cut(3, 1));
        Due.due("one too far", -8, () -> pool.cut(3, 1026));
        Due.due("just so far", 1025, () -> pool.cut(3, 1025));
    }

    private static void firstOfCut() {
        DiskPool pool = full();
        Due.due("none, ahead of the size", -1, () -> pool.cut(5, -1));
        Due.due("a directory, ahead of the size", -5, () -> pool.cut(4, -1));
        Due.due("out of bounds, ahead of no block", -8, () -> pool.cut(3, 35 * 64 + 1025));
        tell(pool, "no block", -4, () -> pool.cut(3, 35 * 64 + 1024));
        tell(pool, "no block", -4, () -> pool.cut(3, 35 * 64 + 1));
        Due.due("shorter by a byte", 35 * 64 - 1, () -> pool.cut(3, 35 * 64 - 1));
        Due.due("and back", 35 * 64, () -> pool.cut(3, 35 * 64));
        DiskPool lost = Pools.brimful();
        lost.lose(1);
        Due.due("power lost", -9, () -> lost.cut(6, 1));
    }

    // Promise 7

    private static void reading() {
        DiskPool pool = tree();
        pool.cut(3, 64);
        pool.cut(2, 64);
        pool.cut(3, 70);
        pool.feed(8, 0x1122334455667788L);
        pool.feed(2, 0x99AAL);
        pool.write(3, 60);
        Due.due("two extents", 2, () -> pool.node(3, 2));
        for (int round = 0; round < 2; round++) {
            Due.due("over both", 0x1122334455667788L, () -> pool.read(3, 60));
            Due.due("just up to the end", 0x99AA112233445566L, () -> pool.read(3, 62));
            Due.due("one behind the end", 0x0099AA1122334455L, () -> pool.read(3, 63));
            Due.due("the last byte", 0x99L, () -> pool.read(3, 69));
            pool.sync();
        }
        Due.due("a directory's last", 0, () -> pool.read(1, 63));
    }

    private static void noByteThere() {
        DiskPool pool = tree();
        pool.cut(3, 10);
        for (int offset : new int[] {10, -1, 11, 64, Integer.MIN_VALUE, Integer.MAX_VALUE}) {
            Due.due("read(3, " + offset + ")", Due.ELEMENT, () -> pool.read(3, offset));
        }
        Due.due("an empty directory", Due.ELEMENT, () -> pool.read(4, 0));
        Due.due("an empty file", Due.ELEMENT, () -> pool.read(2, 0));
        Due.due("behind a directory", Due.ELEMENT, () -> pool.read(0, 64));
        Due.due("a free one", Due.ELEMENT, () -> pool.read(5, 0));
        Due.refused("the last free one", Due.ELEMENT, pool, () -> pool.read(63, 0));
        pool.off();
        Due.due("off, ahead of that", Due.STATE, () -> pool.read(3, 10));
        Due.due("off, ahead of a free one", Due.STATE, () -> pool.read(63, 0));
        Due.due("an inode, ahead of off", Due.ARGUMENT, () -> pool.read(64, 0));
    }

    private static void readFromTheVolume() {
        for (int disk = 0; disk < 6; disk++) {
            DiskPool pool = Pools.committed();
            pool.feed(1, 78);
            pool.write(1, 0);
            pool.fail(disk);
            Due.due("what is changed, without disk " + disk, 78, () -> pool.read(1, 0));
            pool.sync();
            Due.due("what is not, without disk " + disk, 78, () -> pool.read(1, 0));
        }
    }

    // Promise 8

    private static void firstOfMove() {
        DiskPool pool = tree();
        Due.due("no directory, ahead of the other", -1, () -> pool.move(9, 1, 3, 1));
        Due.due("a file, ahead of the other", -5, () -> pool.move(3, 1, 9, 1));
        Due.due("no entry, ahead of the other", -1, () -> pool.move(0, 9, 3, 1));
        Due.due("the other is free", -1, () -> pool.move(0, 3, 9, 3));
        Due.due("the other is a file", -5, () -> pool.move(0, 3, 2, 3));
        Due.due("the other is the file itself", -5, () -> pool.move(0, 3, 3, 3));
        tell(pool, "a file onto a directory with entries", -5, () -> pool.move(0, 3, 0, 1));
        tell(pool, "a directory onto a file within it", -5, () -> pool.move(0, 1, 1, 2));
        tell(pool, "onto one with entries", -6, () -> pool.move(0, 4, 0, 1));
        pool.make(1, 5, true);
        pool.make(5, 6, true);
        Due.due("one with entries, ahead of into itself", -6, () -> pool.move(0, 1, 1, 5));
        Due.due("onto an empty one within it", -7, () -> pool.move(0, 1, 5, 6));
        Due.due("into itself", -7, () -> pool.move(0, 1, 1, 1));
        Due.due("into one within it", -7, () -> pool.move(0, 1, 5, 1));
        Due.due("into one deeper within it", -7, () -> pool.move(0, 1, 6, 1));
        Due.due("a file is no directory", 0, () -> pool.move(1, 2, 6, 2));
    }

    /** Numbers, blocks and bytes of files tell nothing about which directory is within which. */
    private static void withinByEntriesAlone() {
        DiskPool higher = tree();
        higher.move(0, 1, 4, 1);
        Due.due("into one of a lower number", -7, () -> higher.move(0, 4, 1, 9));
        Due.due("out again", 0, () -> higher.move(4, 1, 0, 1));
        Due.due("not within any more", 0, () -> higher.move(0, 4, 1, 9));
        DiskPool crossed = new DiskPool(6, 3, 48);
        for (int i = 1; i <= 2; i++) crossed.make(0, i, true);
        crossed.make(2, 3, true);
        crossed.make(1, 4, true);
        Due.due("their blocks are crossed", 61 * 100 + 60, () -> 100 * crossed.node(1, 3) + crossed.node(2, 3));
        Due.due("within the first", -7, () -> crossed.move(0, 1, 4, 9));
        Due.due("within the second", -7, () -> crossed.move(0, 2, 3, 9));
        Due.due("not within", 0, () -> crossed.move(0, 2, 4, 9));
        DiskPool forged = new DiskPool(6, 3, 48);
        forged.make(0, 1, true);
        forged.make(1, 2, true);
        forged.make(0, 3, false);
        forged.feed(4, 9 | 2 << 16);
        forged.write(3, 0);
        Due.due("a file has no entries", -7, () -> forged.move(0, 1, 2, 9));
    }

    /** 63 directories, each in the one before. */
    private static void withinTheDeepest() {
        DiskPool pool = new DiskPool(8, 3, 48);
        for (int i = 1; i <= 63; i++) pool.make(i - 1, i, true);
        Due.due("the deepest", 63, () -> pool.find(62, 63));
        tell(pool, "into the deepest", -7, () -> pool.move(0, 1, 63, 9));
        Due.due("the second one", -7, () -> pool.move(1, 2, 63, 9));
        Due.due("the last one into itself", -7, () -> pool.move(62, 63, 63, 9));
        Due.due("not empty", -6, () -> pool.remove(0, 1));
        Due.due("the last one up", 0, () -> pool.move(62, 63, 0, 9));
        Due.due("now it is not within", 0, () -> pool.move(0, 1, 63, 1));
        Due.due("but now that", -7, () -> pool.move(0, 9, 62, 9));
    }

    private static void theSameEntry() {
        DiskPool pool = full();
        pool.sync();
        Due.due("a file", 0, () -> pool.move(0, 3, 0, 3));
        Due.due("a directory with entries", 0, () -> pool.move(0, 1, 0, 1));
        Due.due("an empty one", 0, () -> pool.move(0, 4, 0, 4));
        Due.due("nothing changes", 0, () -> pool.look(15));
        Due.due("three operations", 3, () -> pool.look(16));
    }

    private static void noBlockToMove() {
        DiskPool pool = full();
        tell(pool, "into itself, ahead of no block", -7, () -> pool.move(0, 4, 4, 1));
        tell(pool, "no block", -4, () -> pool.move(0, 3, 4, 3));
        Due.due("it is there still", 3, () -> pool.find(0, 3));
        Due.due("into an empty entry", 0, () -> pool.move(0, 4, 1, 4));
        Due.due("onto another", 0, () -> pool.move(0, 3, 1, 2));
        DiskPool lost = Pools.brimful();
        lost.lose(1);
        Due.due("power lost", -9, () -> lost.move(1, 5, 1, 9));
    }

    private static void ontoAnother() {
        DiskPool pool = tree();
        pool.cut(2, 130);
        int free = pool.look(13);
        Due.due("onto it", 0, () -> pool.move(0, 3, 1, 2));
        Due.due("its inode is freed", 0, () -> pool.node(2, 0) + pool.node(2, 1) + pool.node(2, 2));
        Due.due("with its blocks", free + 3, () -> pool.look(13));
        Due.due("the entry has the moved one's", 3, () -> pool.find(1, 2));
        Due.due("the first one is empty", -1, () -> pool.find(0, 3));
        Due.due("all its bytes", 0, () -> pool.read(0, 4) & 0xFFFFFFFFL);
        Due.due("it is the least free", 2, () -> pool.make(1, 5, true));
        Due.due("an empty directory onto an empty one", 0, () -> pool.move(0, 4, 1, 5));
        Due.due("it has the moved one's", 4, () -> pool.find(1, 5));
        Due.due("it is the least free", 2, () -> pool.make(0, 9, true));
        Due.due("up into the root", 0, () -> pool.move(1, 5, 0, 9));
        Due.due("it has the moved one's", 4, () -> pool.find(0, 9));
    }

    /** All 16 entries are there: the one that is moved becomes empty first, so nothing grows. */
    private static void emptyFirstThenNew() {
        DiskPool pool = new DiskPool(8, 3, 48);
        for (int i = 1; i <= 16; i++) pool.make(0, i, false);
        int free = pool.look(13);
        Due.due("moved", 0, () -> pool.move(0, 9, 0, 90));
        Due.due("the size stays", 64, () -> pool.node(0, 1));
        Due.due("no block is taken", free, () -> pool.look(13));
        Due.due("into its own entry", 90 | 9 << 16, () -> pool.read(0, 32) & 0xFFFFFFFFL);
        pool.remove(0, 2);
        pool.move(0, 16, 0, 160);
        Due.due("into the first empty one", 160 | 16 << 16, () -> pool.read(0, 4) & 0xFFFFFFFFL);
        Due.due("its own is empty", 0, () -> pool.read(0, 60));
    }

    // Promise 9

    private static void removing() {
        DiskPool pool = tree();
        Due.due("no directory", -1, () -> pool.remove(9, 1));
        Due.due("a file", -5, () -> pool.remove(3, 1));
        tell(pool, "no entry", -1, () -> pool.remove(0, 9));
        Due.due("no entry in an empty one", -1, () -> pool.remove(4, 1));
        tell(pool, "not empty", -6, () -> pool.remove(0, 1));
        Due.due("its entry", 0, () -> pool.remove(1, 2));
        Due.due("its size stays", 64, () -> pool.node(1, 1));
        int free = pool.look(13);
        Due.due("empty with a block", 0, () -> pool.remove(0, 1));
        Due.due("that is given back", free + 1, () -> pool.look(13));
        Due.due("empty without one", 0, () -> pool.remove(0, 4));
        Due.due("a file", 0, () -> pool.remove(0, 3));
        Due.due("the root's size stays", 64, () -> pool.node(0, 1));
        Due.due("all are free", 63, () -> pool.look(14));
        Due.due("nothing is in it", 0, () -> pool.read(0, 0) | pool.read(0, 8));
        DiskPool lost = Pools.brimful();
        lost.lose(1);
        Due.due("power lost", -9, () -> lost.remove(1, 5));
    }

    /** What lies in the blocks right behind its own ones is no matter. */
    private static void removingBesideOthers() {
        DiskPool pool = tree();
        pool.make(4, 5, false);
        Pools.feed(pool, 130, 255);
        pool.write(3, 0);
        Pools.feed(pool, 64, 255);
        pool.write(2, 0);
        Due.due("the directory's block, then the files'", 61, () -> pool.node(4, 3));
        Due.due("the first file's three", 62 * 10 + 3, () -> 10 * pool.node(3, 3) + pool.node(3, 4));
        Due.due("the other file's", 65, () -> pool.node(2, 3));
        int free = pool.look(13);
        pool.remove(4, 5);
        Due.due("an empty directory ahead of a file", 0, () -> pool.remove(0, 4));
        Due.due("its block", free + 1, () -> pool.look(13));
        Due.due("a file ahead of another", 0, () -> pool.remove(0, 3));
        Due.due("its blocks", free + 4, () -> pool.look(13));
        Due.due("the other is as it was", -1L, () -> pool.read(2, 56));
    }

    /** The one entry of a directory that is not empty is the last of its second block. */
    private static void notEmptyAtTheEnd() {
        DiskPool pool = new DiskPool(8, 3, 48);
        pool.make(0, 1, true);
        for (int i = 1; i <= 32; i++) pool.make(1, i, false);
        for (int i = 1; i <= 31; i++) pool.remove(1, i);
        tell(pool, "one is left", -6, () -> pool.remove(0, 1));
        pool.make(0, 2, true);
        Due.due("one is left", -6, () -> pool.move(0, 2, 0, 1));
        pool.remove(1, 32);
        Due.due("none is left", 0, () -> pool.remove(0, 1));
    }

    // Promise 10

    private static void syncing() {
        DiskPool pool = tree();
        Due.due("all", 6, () -> pool.look(15));
        Due.due("all", 6, pool::sync);
        Due.due("none", 0, pool::sync);
        pool.cut(3, 1);
        pool.lose(1);
        Due.due("power was lost", -9, pool::sync);
        Due.due("off", Due.STATE, pool::sync);
        pool.open();
        pool.lose(1);
        Due.due("none, without a write to be lost at", 0, pool::sync);
        Due.due("on", 1, () -> pool.look(0));
    }

    // Promise 20

    private static void nodes() {
        DiskPool pool = new DiskPool(8, 3, 48);
        pool.make(0, 1, false);
        pool.make(0, 2, true);
        Due.due("no extent of an empty file", Due.ELEMENT, () -> pool.node(1, 3));
        Due.due("no extent of an empty directory", Due.ELEMENT, () -> pool.node(2, 4));
        pool.make(0, 3, false);
        for (int i = 1; i <= 8; i++) {
            pool.cut(1, 64 * i);
            pool.cut(3, 64 * i);
        }
        Due.due("the eighth extent's first", 74, () -> pool.node(1, 17));
        Due.due("the eighth extent's length", 1, () -> pool.node(1, 18));
        for (int what : new int[] {19, 20, -1, -2, Integer.MIN_VALUE, Integer.MAX_VALUE}) {
            Due.due("node(1, " + what + ")", Due.ELEMENT, () -> pool.node(1, what));
        }
        pool.cut(1, 64 * 7);
        Due.due("the seventh", 72, () -> pool.node(1, 15));
        Due.due("no eighth", Due.ELEMENT, () -> pool.node(1, 17));
        Due.due("no eighth", Due.ELEMENT, () -> pool.node(1, 18));
        Due.due("a free one", 0, () -> pool.node(63, 0) + pool.node(63, 1) + pool.node(63, 2));
        Due.refused("no extent of a free one", Due.ELEMENT, pool, () -> pool.node(63, 3));
        pool.off();
        Due.due("off, ahead of that", Due.STATE, () -> pool.node(63, 3));
        Due.due("an inode, ahead of off", Due.ARGUMENT, () -> pool.node(-1, 3));
    }

    public static void main(String[] args) {
        Due.holds("The n lowest bytes of v, lowest first", FileEdgesTest::lowestBytes);
        Due.holds("Throws IllegalArgumentException when n is not 1 .. 8", FileEdgesTest::notOneToEight);
        Due.holds("IllegalStateException when it would have more than 512", FileEdgesTest::moreThan512);
        Due.holds("its inode, the least that is free", FileEdgesTest::leastFreeInode);
        Due.holds("otherwise the first that holds: -1 or -5 for the directory, -2, -3, -4", FileEdgesTest::firstOfMake);
        Due.holds("-3, -4; or -9", FileEdgesTest::powerLostInMake);
        Due.holds("Throws IllegalArgumentException when an inode is not 0 .. 63", FileEdgesTest::noSuchInode);
        Due.holds("or name not 1 .. 65535 (as all calls that get them do)", FileEdgesTest::noSuchName);
        Due.holds("IllegalStateException when it is off", FileEdgesTest::whenItIsOff);
        Due.holds("The inode of an entry; -1 or -5 for the directory, -1 for the entry", FileEdgesTest::finding);
        Due.holds("is written into a file from offset on: its size then", FileEdgesTest::writingAtTheEdges);
        Due.holds("(an empty one changes nothing)", FileEdgesTest::writingNothing);
        Due.holds("which is used up (in any case, but when this throws)", FileEdgesTest::tapeIsUsedUp);
        Due.holds("-1, -5; -8 when offset is below 0 or above its size; -4", FileEdgesTest::firstOfWrite);
        Due.holds("A file is cut to a size, or grows to it with 0s: that size", FileEdgesTest::cutting);
        Due.holds("-8 when size is below 0, or more than 1024 above what it is", FileEdgesTest::cuttingOutOfBounds);
        Due.holds("otherwise: -1, -5; -8 ...; -4; or -9", FileEdgesTest::firstOfCut);
        Due.holds("Eight bytes of a file or directory, from offset on, ... 0s behind the end", FileEdgesTest::reading);
        Due.holds("NoSuchElementException when it is free, or has no byte there; IllegalStateException (ahead of that) when it is off", FileEdgesTest::noByteThere);
        Due.holds("(What is not changed is read from the volume.)", FileEdgesTest::readFromTheVolume);
        Due.holds("otherwise the first that holds: -1, -5 for the one directory; ... -6 if it is one that is not empty; -7", FileEdgesTest::firstOfMove);
        Due.holds("-7 a directory would come into itself, or into one within it", FileEdgesTest::withinByEntriesAlone);
        Due.holds("or into one within it", FileEdgesTest::withinTheDeepest);
        Due.holds("0, and nothing changes, if it is the same one", FileEdgesTest::theSameEntry);
        Due.holds("-7; -4; or -9", FileEdgesTest::noBlockToMove);
        Due.holds("If there was one, its inode is freed, it has the moved one's inode then", FileEdgesTest::ontoAnother);
        Due.holds("otherwise the first one becomes empty, and then a new entry is made", FileEdgesTest::emptyFirstThenNew);
        Due.holds("An entry becomes empty, its inode is freed: 0; otherwise: -1, -5; -1; -6; or -9. (A directory's size stays.)", FileEdgesTest::removing);
        Due.holds("its inode is freed", FileEdgesTest::removingBesideOthers);
        Due.holds("-6 a directory is not empty", FileEdgesTest::notEmptyAtTheEnd);
        Due.holds("Commits: how many blocks were changed; -9 when power was lost", FileEdgesTest::syncing);
        Due.holds("NoSuchElementException when there is no such extent or what", FileEdgesTest::nodes);
        Due.end();
    }
}
