/** Pools in states that several tests begin with, and what they do with them. */
final class Pools {
    private Pools() { }

    /** A pool of 6 disks with one file of a byte, not committed: the blocks 25, 57, 59, 60 are changed. */
    static DiskPool withFile() {
        DiskPool pool = new DiskPool(6, 3, 48);
        pool.make(0, 7, false);
        pool.feed(1, 77);
        pool.write(1, 0);
        return pool;
    }

    /** The same one, committed by 40 writes. */
    static DiskPool committed() {
        DiskPool pool = withFile();
        pool.sync();
        return pool;
    }

    /** A directory with an empty file and four more files are committed, then 24 blocks are changed. */
    static DiskPool brimful() {
        DiskPool pool = new DiskPool(10, 3, 64);
        pool.make(0, 100, true);
        pool.make(1, 5, false);
        for (int i = 3; i <= 6; i++) pool.make(0, i, false);
        pool.sync();
        for (int i = 3; i <= 5; i++) {
            feed(pool, i == 5 ? 5 * 64 : 512, i);
            pool.write(i, 0);
        }
        Due.due("brimful", 24, () -> pool.look(15));
        return pool;
    }

    static void feed(DiskPool pool, int bytes, int value) {
        long v = value * 0x0101010101010101L;
        for (int left = bytes; left > 0; left -= 8) pool.feed(Math.min(8, left), v);
    }

    /** A file of a size, with a name in the root. */
    static int file(DiskPool pool, int name, int size) {
        int inode = pool.make(0, name, false);
        for (int s = 0; s < size; s = Math.min(size, s + 1024)) pool.cut(inode, Math.min(size, s + 1024));
        return inode;
    }

    static void reopen(DiskPool pool) {
        pool.off();
        pool.open();
    }

    /** How many steps there are till there is nothing to do. */
    static int steps(Due.Call step) {
        int count = 0;
        while (count < 400 && step.of() == 1) count++;
        return count;
    }

    /** The disk of a position's home, reckoned anew from the document's words. */
    static int home(int disks, int row, int position) {
        int m = 0;
        for (int t = 1; t < disks; t++) if (gcd(t, disks) == 1) m++;
        int number = row % m;
        int t = 0;
        while (number >= 0) {
            t++;
            if (gcd(t, disks) == 1) number--;
        }
        return (row + position * t) % disks;
    }

    private static int gcd(int a, int b) { return b == 0 ? a : gcd(b, a % b); }

    /** What a call that changes nothing must leave: all looks, some places, and the first inodes. */
    static String state(DiskPool pool) {
        StringBuilder told = new StringBuilder();
        for (int what = 0; what < 20; what++) told.append(pool.look(what)).append(' ');
        for (int row = 0; row < 3; row++) told.append(pool.place(row, 0)).append(' ');
        for (int inode = 0; pool.look(0) == 1 && inode < 4; inode++) {
            for (int what = 0; what < 3; what++) told.append(pool.node(inode, what)).append(' ');
            if (pool.node(inode, 1) > 0) told.append(pool.read(inode, 0)).append(' ');
        }
        return told.toString();
    }
}
