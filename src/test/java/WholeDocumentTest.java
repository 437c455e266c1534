import java.util.Random;
import java.util.stream.IntStream;

/** The document from its first line on: what is told by many calls together, and not at one edge. */
public final class WholeDocumentTest {
    private static final int[][] SHAPES = {{6, 3, 48}, {7, 3, 48}, {9, 8, 64}, {16, 5, 64}};
    private static final int NO_DISK = -1;

    private static void scrubAll(DiskPool pool, String what) {
        int stripes = pool.look(7);
        for (int s = 0; s < stripes; s++) Due.due(what + ": nothing to mend", 0, pool::scrub);
        Due.due(what + ": no hole", 0, () -> pool.look(6));
    }

    // What it is

    /** A life of one pool in fewer than 512 calls: nothing that was committed is ever lost. */
    private static void aLife() {
        DiskPool pool = new DiskPool(8, 4, 48);
        int directory = pool.make(0, 1, true);
        int file = pool.make(directory, 2, false);
        pool.feed(8, 0x1122334455667788L);
        Due.due("written", 8, () -> pool.write(file, 0));
        Due.due("grown", 1000, () -> pool.cut(file, 1000));
        Due.due("two of inodes, the map, two directories, the file's first", 6, pool::sync);
        Due.due("a disk fails", true, pool.fail(3));
        int lost = pool.look(2);
        Due.due("all is there", 0x1122334455667788L, () -> pool.read(file, 0));
        Due.due("rebuilt, one step a call", lost, () -> Pools.steps(pool::rebuild));
        Due.due("none is lost", 0, () -> pool.look(2));
        Due.due("another fails", true, pool.fail(6));
        pool.feed(8, -2L);
        Due.due("written without it", 1000, () -> pool.write(file, 992));
        // Four writes of the payload and four of the head, none of which lies on disk 6, are done.
        pool.lose(9);
        Due.due("power goes", -9, pool::sync);
        Due.due("a disk is replaced meanwhile", true, pool.replace(6));
        Due.due("it opens", true, pool.open());
        Due.due("copied back, one step a call", true, Pools.steps(pool::copyBack) > 20);
        Due.due("the other too", true, pool.replace(3));
        Due.due("copied back", lost, () -> Pools.steps(pool::copyBack));
        Due.due("none is lost", 0, () -> pool.look(2));
        // Position 0 of row r lies on disk r mod 8.
        for (int row = 0; row < 48; row++) Due.due("a byte spoils silently", true, pool.spoil(row % 8, row, row, 1, 1));
        Due.due("one in each stripe", 48, () -> pool.look(3));
        Due.due("all is there", 0x1122334455667788L, () -> pool.read(file, 0));
        int mended = 0;
        for (int s = 0; s < 48; s++) mended += pool.scrub();
        int all = mended;
        Due.due("scrubbed, one step a call", 48, () -> all);
        Due.due("none is spoilt", 0, () -> pool.look(3));
        Pools.reopen(pool);
        Due.due("it is found", directory, () -> pool.find(0, 1));
        Due.due("in it too", file, () -> pool.find(directory, 2));
        Due.due("all is there", 0x1122334455667788L, () -> pool.read(file, 0));
        Due.due("what the head told of too", -2L, () -> pool.read(file, 992));
        Due.due("nothing strayed", 0, () -> pool.look(19));
    }

    /** A file whose bytes are committed, on a pool whose disk failed and was rebuilt. */
    private static DiskPool rebuilt(int failed) {
        DiskPool pool = new DiskPool(7, 3, 48);
        pool.make(0, 7, false);
        pool.cut(1, 130);
        pool.feed(1, 10);
        pool.write(1, 0);
        pool.feed(1, 20);
        pool.write(1, 129);
        pool.sync();
        pool.fail(failed);
        Pools.steps(pool::rebuild);
        pool.feed(1, 11);
        pool.write(1, 0);
        pool.feed(1, 21);
        pool.write(1, 129);
        return pool;
    }

    /** Power goes at each write, then one more disk fails: both changes are there, or none is. */
    private static void powerAtAnyWrite() {
        for (int failed = 0; failed < 7; failed++) {
            for (int n = 1; n <= 24; n++) {
                for (int second = 0; second < 7; second++) {
                    DiskPool pool = rebuilt(failed);
                    pool.lose(n);
                    String what = "without " + failed + ", lost at " + n + ", then without " + second;
                    Due.due(what, -9, pool::sync);
                    Due.due(what + ": fails", second != failed, pool.fail(second));
                    Due.due(what + ": opens", true, pool.open());
                    int there = pool.look(18) == 2 ? 1 : 0;
                    Due.due(what + ": the first byte", 10 + there, () -> pool.read(1, 0) & 255);
                    Due.due(what + ": the last byte", 20 + there, () -> pool.read(1, 129));
                    Due.due(what + ": nothing strayed", 0, () -> pool.look(19));
                    if (n <= 8) Due.due(what + ": the payload alone", 0, () -> there);
                    if (n >= 13) Due.due(what + ": the head is there", 1, () -> there);
                }
            }
        }
    }

    /** The same pools, mended then: all stripes are right, and so are the bytes. */
    private static void mendedBehindIt() {
        for (int n = 1; n <= 24; n++) {
            int failed = n % 7;
            int second = (n + 1 + n / 7) % 7;
            DiskPool pool = rebuilt(failed);
            pool.lose(n);
            pool.sync();
            pool.fail(second);
            pool.replace(failed);
            pool.replace(second);
            pool.open();
            int there = pool.look(18) == 2 ? 1 : 0;
            Pools.steps(pool::copyBack);
            String what = "lost at " + n;
            Due.due(what + ": none is lost", 0, () -> pool.look(2));
            Due.due(what + ": all spares are free", 48, () -> pool.look(4));
            scrubAll(pool, what);
            Due.due(what + ": the first byte", 10 + there, () -> pool.read(1, 0) & 255);
            Due.due(what + ": the last byte", 20 + there, () -> pool.read(1, 129));
        }
    }

    /** Each step is ended by power once, and done then. */
    private static void powerAtAnyStep() {
        DiskPool pool = Pools.committed();
        pool.fail(4);
        for (int i = 0; i < 24; i++) {
            pool.lose(1);
            Due.due("a step of rebuilding is lost", -9, pool::rebuild);
            pool.open();
            int left = 24 - i;
            Due.due("it was not done", left, () -> pool.look(2));
            Due.due("it is done", 1, pool::rebuild);
        }
        Due.due("one write each", 40 + 24, () -> pool.look(1));
        pool.replace(4);
        for (int i = 0; i < 24; i++) {
            int free = 144 - 24 + i;
            pool.lose(2);
            Due.due("a step of copying back is lost behind its first write", -9, pool::copyBack);
            Due.due("its spare is free", free + 1, () -> pool.look(4));
            Due.due("opening does the rest", true, pool.open());
        }
        Due.due("two writes each", 64 + 48, () -> pool.look(1));
        Due.due("nothing is left to do", 0, pool::copyBack);
        scrubAll(pool, "at the end");
        Due.due("as it was", 77, () -> pool.read(1, 0));
    }

    private static void scrubbedAgainstPower() {
        DiskPool pool = Pools.committed();
        for (int row = 0; row < 24; row++) Due.due("spoilt", true, pool.spoil(Pools.home(6, row, row % 3), row, 0, 8, -1L));
        pool.lose(1);
        Due.due("lost", -9, pool::scrub);
        pool.open();
        Due.due("all are spoilt still", 24, () -> pool.look(3));
        for (int row = 0; row < 24; row++) Due.due("mended", 1, pool::scrub);
        Due.due("one write each", 40 + 24, () -> pool.look(1));
        for (int row = 24; row < 48; row++) Due.due("nothing to mend", 0, pool::scrub);
        Due.due("none", 0, () -> pool.look(3));
        Due.due("as it was", 77, () -> pool.read(1, 0));
    }

    // Terms

    private static void liveOrFailed() {
        for (int disk = 0; disk < 16; disk++) {
            DiskPool pool = new DiskPool(16, 3, 48);
            Due.due("live", false, pool.replace(disk));
            Due.due("fails", true, pool.fail(disk));
            Due.due("one is failed", 15, () -> pool.look(11));
            Due.due("failed already", false, pool.fail(disk));
            Due.due("replaced", true, pool.replace(disk));
            Due.due("all are live", 16, () -> pool.look(11));
            Due.due("live already", false, pool.replace(disk));
        }
    }

    /** All positions of all rows, with a new pool wherever its calls come to an end. */
    private static void everyPosition() {
        for (int disks = 6; disks <= 16; disks++) {
            for (int width = 3; width <= 8 && width < disks; width++) {
                int positions = (disks - 1) / width * width;
                DiskPool pool = new DiskPool(disks, width, 64);
                for (int at = 0; at < 64 * positions; at++) {
                    if (at % 512 == 0) pool = new DiskPool(disks, width, 64);
                    DiskPool one = pool;
                    int row = at / positions;
                    int p = at % positions;
                    String what = disks + " disks, width " + width + ": place(" + row + ", " + p + ")";
                    Due.due(what, Pools.home(disks, row, p), () -> one.place(row, p));
                }
            }
        }
    }

    /** No disk has two positions of one row, so each stripe survives each disk. */
    private static void parityIsSpread() {
        for (int[] s : SHAPES) {
            for (int disk = 0; disk < s[0]; disk++) {
                DiskPool pool = new DiskPool(s[0], s[1], s[2]);
                int inode = Pools.file(pool, 1, 20 * 64);
                for (int b = 0; b < 20; b++) {
                    pool.feed(8, 1000003L * b + 7);
                    pool.write(inode, 64 * b);
                }
                pool.sync();
                Due.due("fails", true, pool.fail(disk));
                String what = s[0] + " disks, without " + disk + ", block ";
                for (int b = 0; b < 20; b++) {
                    int at = b;
                    Due.due(what + b, 1000003L * b + 7, () -> pool.read(inode, 64 * at));
                }
                Due.due("at most one of a row", true, pool.look(2) <= s[2]);
            }
        }
    }

    /** The positions on one disk, by rows, come one by one, whatever the order of their numbers. */
    private static void byRows() {
        int[] s = {10, 4, 48};
        DiskPool pool = new DiskPool(s[0], s[1], s[2]);
        pool.fail(2);
        int found = 0;
        for (int row = 0; row < 48; row++) {
            for (int p = 0; p < 8; p++) {
                if (Pools.home(10, row, p) != 2) continue;
                int r = row;
                int position = p;
                found++;
                Due.due("lost", -1, () -> pool.place(r, position));
                Due.due("its turn", 1, pool::rebuild);
                Due.due("rebuilt", Pools.home(10, row, 8), () -> pool.place(r, position));
            }
        }
        int all = found;
        Due.due("that was all", 0, pool::rebuild);
        Due.due("one write each", all, () -> pool.look(1));
        pool.replace(2);
        for (int row = 0; row < 48; row++) {
            for (int p = 0; p < 8; p++) {
                if (Pools.home(10, row, p) != 2) continue;
                int r = row;
                int position = p;
                Due.due("its turn", 1, pool::copyBack);
                Due.due("home", 2, () -> pool.place(r, position));
            }
        }
        Due.due("two writes each", 3 * all, () -> pool.look(1));
    }

    /**
     * Position 0 of row 0 is home again, and its spare has it still; but it counts as lost with its
     * disk, so that disk may not fail beside a spoilt cell of the stripe.
     */
    private static void countsAsLost() {
        for (boolean spoilt : new boolean[] {true, false}) {
            DiskPool pool = Pools.committed();
            pool.fail(0);
            Pools.steps(pool::rebuild);
            pool.replace(0);
            if (spoilt) Due.due("the cell beside it", true, pool.spoil(1, 0, 0, 1, 1));
            pool.lose(2);
            Due.due("its spare is left", -9, pool::copyBack);
            Due.due("home", 0, () -> pool.place(0, 0));
            Due.due("its disk", !spoilt, pool.fail(0));
            Due.due("its place", spoilt ? 0 : 3, () -> pool.place(0, 0));
            Due.due("opens", true, pool.open());
            Due.due("all is there", 77, () -> pool.read(1, 0));
        }
    }

    /** How many writes a block takes, without a disk that is failed and not rebuilt. */
    private static int cost(int[] s, int failed, int block) {
        int k = s[1];
        int groups = (s[0] - 1) / k;
        int stripe = block / (k - 1);
        int row = stripe / groups;
        int first = k * (stripe % groups);
        boolean isData = Pools.home(s[0], row, first + block % (k - 1)) == failed;
        boolean isParity = Pools.home(s[0], row, first + k - 1) == failed;
        return isData || isParity ? 1 : 4;
    }

    /** Seven blocks are changed: 25, 57, 59 and the four of a file. */
    private static DiskPool sevenChanged(int[] s, int failed) {
        DiskPool pool = new DiskPool(s[0], s[1], s[2]);
        pool.make(0, 7, false);
        Pools.feed(pool, 256, 9);
        pool.write(1, 0);
        if (failed != NO_DISK) pool.fail(failed);
        return pool;
    }

    private static final int[] WRITTEN = {1, 2, 3, 4, 5, 6, 7, 0, 25, 57, 59, 60, 61, 62, 63, 0};
    private static final int FIRST_HEAD = 7;
    private static final int LAST_HEAD = 15;

    /** How many writes are done when a block is on the volume for all who read it. */
    private static int enough(int cost) { return cost == 4 ? 2 : 1; }

    private static void blocksOfACommit() {
        for (int[] s : SHAPES) {
            for (int failed = NO_DISK; failed < s[0]; failed++) {
                int[] before = new int[WRITTEN.length + 1];
                for (int i = 0; i < WRITTEN.length; i++) before[i + 1] = before[i] + cost(s, failed, WRITTEN[i]);
                int all = before[WRITTEN.length];
                String what = s[0] + " disks, without " + failed;
                DiskPool pool = sevenChanged(s, failed);
                Due.due(what + ": changed", 7, () -> pool.look(15));
                Due.due(what + ": committed", 7, pool::sync);
                Due.due(what + ": writes", all, () -> pool.look(1));
                for (int n = 1; n <= all; n++) lostInACommit(s, failed, n, before, what + ", lost at " + n);
            }
        }
    }

    /** Opening ends what a log and the head tell of, and does nothing else. */
    private static void lostInACommit(int[] s, int failed, int n, int[] before, String what) {
        DiskPool pool = sevenChanged(s, failed);
        pool.lose(n);
        Due.due(what, -9, pool::sync);
        int done = n - 1;
        Due.due(what + ": done", done, () -> pool.look(1));
        int block = 0;
        while (before[block + 1] <= done) block++;
        int ofLog = done > before[block] ? 2 : 0;
        int headCost = cost(s, failed, 0);
        boolean there = done >= before[FIRST_HEAD] + enough(headCost);
        boolean ended = done >= before[LAST_HEAD] + enough(headCost);
        int ofJournal = there && !ended ? before[LAST_HEAD + 1] - before[FIRST_HEAD + 1] : 0;
        Due.due(what + ": opens", true, pool.open());
        Due.due(what + ": done by opening", done + ofLog + ofJournal, () -> pool.look(1));
        Due.due(what + ": the sequence", there ? 1 : 0, () -> pool.look(18));
        Due.due(what + ": the file", there ? 1 : -1, () -> pool.find(0, 7));
        if (there) Due.due(what + ": its bytes", 0x0909090909090909L, () -> pool.read(1, 248));
        Due.due(what + ": nothing strayed", 0, () -> pool.look(19));
    }

    // Files

    private static final int[] NAMES = {1, 2, 255, 256, 4096, 65535};

    /** Random operations in a few directories. */
    private static void change(DiskPool pool, Random random) {
        int a = random.nextInt(12);
        int b = random.nextInt(12);
        int name = NAMES[random.nextInt(NAMES.length)];
        int other = NAMES[random.nextInt(NAMES.length)];
        switch (random.nextInt(7)) {
            case 0: case 1: pool.make(a, name, random.nextInt(3) > 0); break;
            case 2: pool.move(a, name, b, other); break;
            case 3: if (random.nextInt(3) == 0) pool.remove(a, name); break;
            case 4: pool.cut(a, random.nextInt(700)); break;
            default:
                pool.feed(8, random.nextLong());
                pool.write(a, pool.node(a, 1) * random.nextInt(2));
        }
    }

    /** What the terms say of every inode, looked at by the face alone. */
    private static final class Census {
        final DiskPool pool;
        final boolean[] taken;
        final int[] entries = new int[64];
        final int[] parent = new int[64];
        int free;
        int blocks;

        Census(DiskPool pool) {
            this.pool = pool;
            taken = new boolean[pool.look(5)];
        }

        void count() {
            for (int inode = 0; inode < 64; inode++) {
                int kind = pool.node(inode, 0);
                if (kind == 0) free++;
                else node(inode, kind);
            }
            Due.due("free inodes", free, () -> pool.look(14));
            Due.due("free blocks", taken.length - 59 - blocks, () -> pool.look(13));
            Due.due("the root has no entry", 0, () -> entries[0]);
            for (int inode = 1; inode < 64; inode++) {
                int one = inode;
                boolean isFree = entries[inode] == 0;
                Due.due("an inode that is not free has just one", isFree ? 0 : 1, () -> entries[one]);
                if (!isFree) Due.due("it comes from the root", true, isWithinTheRoot(inode));
            }
            Due.due("as many as are not free", 63 - free, () -> IntStream.of(entries).sum());
        }

        private boolean isWithinTheRoot(int inode) {
            int above = inode;
            for (int depth = 0; depth < 64 && above != 0; depth++) above = parent[above];
            return above == 0;
        }

        private void node(int inode, int kind) {
            int size = pool.node(inode, 1);
            int extents = pool.node(inode, 2);
            int own = 0;
            for (int e = 0; e < extents; e++) {
                int first = pool.node(inode, 3 + 2 * e);
                int length = pool.node(inode, 4 + 2 * e);
                Due.due("1 .. 255", true, length >= 1 && length <= 255);
                own += length;
                for (int b = first; b < first + length; b++) {
                    Due.due("a block of its own", false, b < 59 || taken[b]);
                    taken[b] = true;
                }
            }
            blocks += own;
            int needed = (size + 63) / 64;
            int had = own;
            Due.due("just as many as its size needs", needed, () -> had);
            Due.due("at most eight extents", true, extents <= 8);
            if (kind == 2) directory(inode, size);
        }

        private void directory(int inode, int size) {
            Due.due("a multiple of 64", 0, () -> size % 64);
            for (int at = 0; at < size; at += 8) {
                long two = pool.read(inode, at);
                entry(inode, two & 0xFFFFFFFFL);
                entry(inode, two >>> 32);
            }
        }

        private void entry(int directory, long bytes) {
            if ((bytes & 0xFFFF) == 0) {
                Due.due("all bytes of an empty one are 0", 0, () -> bytes);
                return;
            }
            int inode = (int) (bytes >> 16 & 255);
            Due.due("its last byte is 0", 0, () -> bytes >> 24);
            Due.due("there is such an inode", true, inode < 64);
            entries[inode]++;
            parent[inode] = directory;
        }
    }

    private static void oneEntryForEach() {
        for (int seed = 0; seed < 200; seed++) {
            Random random = new Random(seed);
            int[] s = SHAPES[seed % SHAPES.length];
            DiskPool pool = new DiskPool(s[0], s[1], s[2]);
            for (int i = 0; i < 60; i++) change(pool, random);
            if (seed % 3 == 0) pool.sync();
            if (seed % 3 == 1) pool.fail(seed % s[0]);
            if (seed % 2 == 0) Pools.reopen(pool);
            new Census(pool).count();
        }
    }

    /** The same calls on two pools in turn: each one answers as it would alone. */
    private static void twoPoolsInTurn() {
        Random random = new Random(5);
        Random same = new Random(5);
        DiskPool a = new DiskPool(7, 3, 48);
        DiskPool b = new DiskPool(7, 3, 48);
        for (int i = 0; i < 60; i++) {
            change(a, random);
            change(b, same);
            if (i % 20 == 7) a.sync();
            if (i % 20 == 7) b.sync();
        }
        Due.due("the same answers", true, Pools.state(a).equals(Pools.state(b)));
    }

    public static void main(String[] args) {
        Due.holds("disks fail and are replaced, bytes spoil silently, power goes at any write of any disk", WholeDocumentTest::aLife);
        Due.holds("power goes at any write of any disk", WholeDocumentTest::powerAtAnyWrite);
        Due.holds("A pool of disks with parity spread over them, spread spares, a log of partial parities", WholeDocumentTest::mendedBehindIt);
        Due.holds("rebuilding, copying back, scrubbing, one step a call", WholeDocumentTest::powerAtAnyStep);
        Due.holds("SCRUB, a step: the NEXT stripe ... if a cell of it is spoilt, it is reckoned and written (1 write)", WholeDocumentTest::scrubbedAgainstPower);
        Due.holds("each LIVE or FAILED", WholeDocumentTest::liveOrFailed);
        Due.holds("In a row r, position p (0 .. n - 1) lies on disk (r + p * t) mod n, at offset r: t is the one with number r mod m, from 0, of the m numbers 1 .. n - 1, rising, that have no divisor above 1 in common with n", WholeDocumentTest::everyPosition);
        Due.holds("its COLUMNS j 0 .. k - 1; the last one is PARITY, the others DATA", WholeDocumentTest::parityIsSpread);
        Due.holds("REBUILD, a step: the first position, by rows ... COPY BACK, a step: the first position below k * GROUPS, by rows", WholeDocumentTest::byRows);
        Due.holds("for a disk that fails all positions count as lost whose places lie on it", WholeDocumentTest::countsAsLost);
        Due.holds("their bytes, by rising numbers, are written to the blocks 1 .. n; then the HEAD with its sequence, the count n, their numbers; then their bytes to these blocks; then the HEAD with the next sequence and all else 0", WholeDocumentTest::blocksOfACommit);
        Due.holds("every other inode that is not free has just one", WholeDocumentTest::oneEntryForEach);
        Due.holds("All memory is the class's own", WholeDocumentTest::twoPoolsInTurn);
        Due.end();
    }
}
